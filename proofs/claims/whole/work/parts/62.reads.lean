/-! letter, read, readCut, readGrown, forge of the class -/
theorem iW {t : Int32} {W : Nat} (hW : W < 2 ^ 20) (h : nI 0 ≤ t ∧ t < nI W) : ∃ k, k < W ∧ t = nI k := by
  have h1 := Int32.le_iff_toInt_le.mp h.1
  have h2 := Int32.lt_iff_toInt_lt.mp h.2
  rw [nI_toInt (by omega)] at h1 h2
  refine ⟨t.toInt.toNat, by omega, Int32.toInt_inj.mp ?_⟩
  rw [nI_toInt (by omega)]
  omega
theorem onr_uI1 (h : ma_H) {L : List Nat} {a : Nat} (k : Nat) (v : Int32) (ha : a ∈ L) : onr h (ma_uI h a k v) L := onr_uI (onr_rf h L) k v ha
section
variable (l : Launch) (g : ma_G) (x : Bool) {h : ma_H}
theorem m_nextRead (hp : pt_ok h) {R : Nat} (hR : R < 90) (e : h.1 2 4 = nI R) : ma_PM l g x me_Arc_nextRead [.ref 2] GS h (fun v S' h' => v = some (.ref (h.2.2 69 R)) ∧ S' = GS ∧ h' = ma_uI h 2 4 (nI (R + 1))) := by
  refine ma_PM_of (P := pr_Arc_nextRead) (by decide) rfl (Nat.le_of_ble_eq_true rfl) ?_
  show ma_J l g x none me_Arc_nextRead pr_Arc_nextRead _ 0 [some (.ref 2)] [] 0 0 GS h
  have o1 : on h (ma_uI h 2 4 (nI (R + 1))) [2] := on_uI (on_rf h _) _ _ (by simp)
  have p1 : (ma_uI h 2 4 (nI (R + 1))).2.2 2 3 = 69 := pt_2_3 (on_pt o1 hp)
  refine ma_run0 po_Arc_nextRead rfl rfl [] 60 ?_
  simp only [pa_Arc_nextRead, ma_go, ev_A, ev_B, ev_C, ev_D, Nat.reduceAdd, List.mem_cons, List.not_mem_nil, or_false, or_true, true_or, false_or, or_self, Nat.reduceEqDiff, reduceCtorEq, ↓reduceIte, List.length_cons, List.length_nil, Nat.reduceLT, Nat.reduceLeDiff, Nat.le_refl, implies_true, true_and, and_true, Option.toList, List.cons_append, List.nil_append, gs_2, e]
  rw [nx_1, uI_same, p1, nx_sub, nI_clamp (n := R) (by omega)]
  exact ⟨ma_in_of gs_69 hR (by decide), rfl, rfl⟩
theorem m_letterN {W : Nat} (eW : h.1 2 2 = nI W) {t i : Int32} (hn : ¬ ((nI 0 ≤ t ∧ t < nI W) ∧ nI 0 ≤ i ∧ i ≤ nI 44)) : ma_PM l g x me_Arc_letter [.ref 2, .int t, .int i] GS h (fun v S' h' => v = some (.int (-1)) ∧ S' = GS ∧ h' = h) := by
  refine ma_PM_of (P := pr_Arc_letter) (by decide) rfl (Nat.le_of_ble_eq_true rfl) ?_
  show ma_J l g x none me_Arc_letter pr_Arc_letter _ 0 [some (.ref 2), some (.int t), some (.int i)] [] 0 0 GS h
  have no : ma_J l g x none me_Arc_letter pr_Arc_letter (fun v S' h' => v = some (.int (-1)) ∧ S' = GS ∧ h' = h) 9 [some (.ref 2), some (.int t), some (.int i)] [] 0 0 GS h := by
    refine ma_run0 po_Arc_letter rfl rfl [] 60 ?_
    simp only [pa_Arc_letter, ma_go, ev_A, ev_B, ev_C, ev_D, Nat.reduceAdd, List.mem_cons, List.not_mem_nil, or_false, or_true, true_or, false_or, or_self, Nat.reduceEqDiff, reduceCtorEq, ↓reduceIte, List.length_cons, List.length_nil, Nat.reduceLT, Nat.reduceLeDiff, Nat.le_refl, implies_true, true_and, and_true, Option.toList, List.cons_append, List.nil_append]
  refine ma_run0 po_Arc_letter rfl rfl [9, 11] 60 ?_
  simp only [pa_Arc_letter, ma_go, ev_A, ev_B, ev_C, ev_D, Nat.reduceAdd, List.mem_cons, List.not_mem_nil, or_false, or_true, true_or, false_or, or_self, Nat.reduceEqDiff, reduceCtorEq, ↓reduceIte, List.length_cons, List.length_nil, Nat.reduceLT, Nat.reduceLeDiff, Nat.le_refl, implies_true, true_and, and_true, Option.toList, List.cons_append, List.nil_append, gs_2]
  refine ma_callD mt_Arc_isWritten rfl rfl (Nat.le_of_ble_eq_true rfl) (Nat.le_refl _) (Nat.le_refl _) (m_isWritten l g x eW t) ?_
  simp only [pa_Arc_letter, ma_go, ev_A, ev_B, ev_C, ev_D, Nat.reduceAdd, List.mem_cons, List.not_mem_nil, or_false, or_true, true_or, false_or, or_self, Nat.reduceEqDiff, reduceCtorEq, ↓reduceIte, List.length_cons, List.length_nil, Nat.reduceLT, Nat.reduceLeDiff, Nat.le_refl, implies_true, true_and, and_true, Option.toList, List.cons_append, List.nil_append]
  by_cases q : nI 0 ≤ t ∧ t < nI W
  · rw [show decide (nI 0 ≤ t ∧ t < nI W) = true from decide_eq_true q]
    refine ⟨fun _ => no, fun _ => ⟨fun _ => no, fun q2 => ⟨fun q3 => absurd q3 (iN (m := 44) (by decide) (fun z => hn ⟨q, z⟩) q2), fun _ => no⟩⟩⟩
  · rw [show decide (nI 0 ≤ t ∧ t < nI W) = false from decide_eq_false q]
    exact ⟨fun _ => no, fun z => absurd rfl z⟩
theorem m_letter (hp : pt_ok h) {W t i : Nat} {f : Nat → Nat} (eW : h.1 2 2 = nI W) (hW : W ≤ 64) (ht : t < W) (hi : i < 45) (hz : rz h (5 + t) 45 f) : ma_PM l g x me_Arc_letter [.ref 2, .int (nI t), .int (nI i)] GS h (fun v S' h' => v = some (.int (nI (f i))) ∧ S' = GS ∧ h' = h) := by
  refine ma_PM_of (P := pr_Arc_letter) (by decide) rfl (Nat.le_of_ble_eq_true rfl) ?_
  show ma_J l g x none me_Arc_letter pr_Arc_letter _ 0 [some (.ref 2), some (.int (nI t)), some (.int (nI i))] [] 0 0 GS h
  have ha : isr (5 + t) := Or.inl ⟨by omega, by omega⟩
  refine ma_run0 po_Arc_letter rfl rfl [9, 11] 60 ?_
  simp only [pa_Arc_letter, ma_go, ev_A, ev_B, ev_C, ev_D, Nat.reduceAdd, List.mem_cons, List.not_mem_nil, or_false, or_true, true_or, false_or, or_self, Nat.reduceEqDiff, reduceCtorEq, ↓reduceIte, List.length_cons, List.length_nil, Nat.reduceLT, Nat.reduceLeDiff, Nat.le_refl, implies_true, true_and, and_true, Option.toList, List.cons_append, List.nil_append, gs_2]
  refine ma_callD mt_Arc_isWritten rfl rfl (Nat.le_of_ble_eq_true rfl) (Nat.le_refl _) (Nat.le_refl _) (m_isWritten l g x eW (nI t)) ?_
  simp only [pa_Arc_letter, ma_go, ev_A, ev_B, ev_C, ev_D, Nat.reduceAdd, List.mem_cons, List.not_mem_nil, or_false, or_true, true_or, false_or, or_self, Nat.reduceEqDiff, reduceCtorEq, ↓reduceIte, List.length_cons, List.length_nil, Nat.reduceLT, Nat.reduceLeDiff, Nat.le_refl, implies_true, true_and, and_true, Option.toList, List.cons_append, List.nil_append]
  rw [show decide (nI 0 ≤ nI t ∧ nI t < nI W) = true from decide_eq_true ⟨nI_le (Nat.zero_le _) (by omega), nI_lt ht (by omega)⟩]
  refine ⟨fun z => absurd z (by decide +kernel), fun _ => ⟨fun q => absurd ((nI_ltI (by omega) (by omega)).mp q) (by omega), fun _ => ⟨fun _ => ?_, fun q => absurd (nI_lt hi (by omega)) q⟩⟩⟩
  refine ma_run0 po_Arc_letter rfl rfl [] 60 ?_
  simp only [pa_Arc_letter, ma_go, ev_A, ev_B, ev_C, ev_D, Nat.reduceAdd, List.mem_cons, List.not_mem_nil, or_false, or_true, true_or, false_or, or_self, Nat.reduceEqDiff, reduceCtorEq, ↓reduceIte, List.length_cons, List.length_nil, Nat.reduceLT, Nat.reduceLeDiff, Nat.le_refl, implies_true, true_and, and_true, Option.toList, List.cons_append, List.nil_append, gs_2, pt_Arc hp]
  rw [nI_clamp (n := t) (by omega), pt_4 hp (show t < 64 by omega)]
  refine ⟨ma_in_of gs_4 (by omega) (by decide), ?_⟩
  simp only [pa_Arc_letter, ma_go, ev_A, ev_B, ev_C, ev_D, Nat.reduceAdd, List.mem_cons, List.not_mem_nil, or_false, or_true, true_or, false_or, or_self, Nat.reduceEqDiff, reduceCtorEq, ↓reduceIte, List.length_cons, List.length_nil, Nat.reduceLT, Nat.reduceLeDiff, Nat.le_refl, implies_true, true_and, and_true, Option.toList, List.cons_append, List.nil_append, gs_row ha]
  refine ma_callD mt_Row_at rfl rfl (Nat.le_of_ble_eq_true rfl) (Nat.le_refl _) (Nat.le_refl _) (m_atf l g x ha (rz_rf (by decide) hz) (by decide) hi) ?_
  simp only [pa_Arc_letter, ma_go, ev_A, ev_B, ev_C, ev_D, Nat.reduceAdd, List.mem_cons, List.not_mem_nil, or_false, or_true, true_or, false_or, or_self, Nat.reduceEqDiff, reduceCtorEq, ↓reduceIte, List.length_cons, List.length_nil, Nat.reduceLT, Nat.reduceLeDiff, Nat.le_refl, implies_true, true_and, and_true, Option.toList, List.cons_append, List.nil_append]
theorem m_readN {W R : Nat} (eW : h.1 2 2 = nI W) (hR : R ≤ 90) (eR : h.1 2 4 = nI R) {t : Int32} (hn : ¬ ((nI 0 ≤ t ∧ t < nI W) ∧ R < 90)) : ma_PM l g x me_Arc_read [.ref 2, .int t] GS h (fun v S' h' => v = some (.int (nI 0)) ∧ S' = GS ∧ h' = h) := by
  refine ma_PM_of (P := pr_Arc_read) (by decide) rfl (Nat.le_of_ble_eq_true rfl) ?_
  show ma_J l g x none me_Arc_read pr_Arc_read _ 0 [some (.ref 2), some (.int t), none] [] 0 0 GS h
  have no : ma_J l g x none me_Arc_read pr_Arc_read (fun v S' h' => v = some (.int (nI 0)) ∧ S' = GS ∧ h' = h) 7 [some (.ref 2), some (.int t), none] [] 0 0 GS h := by
    refine ma_run0 po_Arc_read rfl rfl [] 60 ?_
    simp only [pa_Arc_read, ma_go, ev_A, ev_B, ev_C, ev_D, Nat.reduceAdd, List.mem_cons, List.not_mem_nil, or_false, or_true, true_or, false_or, or_self, Nat.reduceEqDiff, reduceCtorEq, ↓reduceIte, List.length_cons, List.length_nil, Nat.reduceLT, Nat.reduceLeDiff, Nat.le_refl, implies_true, true_and, and_true, Option.toList, List.cons_append, List.nil_append]
  refine ma_run0 po_Arc_read rfl rfl [7, 9] 60 ?_
  simp only [pa_Arc_read, ma_go, ev_A, ev_B, ev_C, ev_D, Nat.reduceAdd, List.mem_cons, List.not_mem_nil, or_false, or_true, true_or, false_or, or_self, Nat.reduceEqDiff, reduceCtorEq, ↓reduceIte, List.length_cons, List.length_nil, Nat.reduceLT, Nat.reduceLeDiff, Nat.le_refl, implies_true, true_and, and_true, Option.toList, List.cons_append, List.nil_append, gs_2]
  refine ma_callD mt_Arc_isWritten rfl rfl (Nat.le_of_ble_eq_true rfl) (Nat.le_refl _) (Nat.le_refl _) (m_isWritten l g x eW t) ?_
  simp only [pa_Arc_read, ma_go, ev_A, ev_B, ev_C, ev_D, Nat.reduceAdd, List.mem_cons, List.not_mem_nil, or_false, or_true, true_or, false_or, or_self, Nat.reduceEqDiff, reduceCtorEq, ↓reduceIte, List.length_cons, List.length_nil, Nat.reduceLT, Nat.reduceLeDiff, Nat.le_refl, implies_true, true_and, and_true, Option.toList, List.cons_append, List.nil_append, gs_2]
  by_cases q : nI 0 ≤ t ∧ t < nI W
  · rw [show decide (nI 0 ≤ t ∧ t < nI W) = true from decide_eq_true q]
    refine ⟨fun _ => no, fun _ => ?_⟩
    refine ma_callD mt_Arc_isFull rfl rfl (Nat.le_of_ble_eq_true rfl) (Nat.le_refl _) (Nat.le_refl _) (m_isFull l g x (by omega) eR) ?_
    simp only [pa_Arc_read, ma_go, ev_A, ev_B, ev_C, ev_D, Nat.reduceAdd, List.mem_cons, List.not_mem_nil, or_false, or_true, true_or, false_or, or_self, Nat.reduceEqDiff, reduceCtorEq, ↓reduceIte, List.length_cons, List.length_nil, Nat.reduceLT, Nat.reduceLeDiff, Nat.le_refl, implies_true, true_and, and_true, Option.toList, List.cons_append, List.nil_append]
    rw [show decide (90 ≤ R) = true from decide_eq_true (Nat.le_of_not_lt (fun z => hn ⟨q, z⟩))]
    exact ⟨fun z => absurd z (by decide +kernel), fun _ => no⟩
  · rw [show decide (nI 0 ≤ t ∧ t < nI W) = false from decide_eq_false q]
    exact ⟨fun _ => no, fun z => absurd rfl z⟩
theorem m_read (hp : pt_ok h) {W R t a : Nat} {f : Nat → Nat} (eW : h.1 2 2 = nI W) (hW : W ≤ 64) (eR : h.1 2 4 = nI R) (hR : R < 90) (ht : t < W) (ea : h.2.2 69 R = a) (ha : 70 ≤ a ∧ a ≤ 159) (hz : rz h (5 + t) 45 f) : ma_PM l g x me_Arc_read [.ref 2, .int (nI t)] GS h (fun v S' h' => v = some (.int (nI 1)) ∧ S' = GS ∧ onr h h' [2, a] ∧ h'.1 2 2 = nI W ∧ h'.1 2 4 = nI (R + 1) ∧ rf h' a 45 f) := by
  refine ma_PM_of (P := pr_Arc_read) (by decide) rfl (Nat.le_of_ble_eq_true rfl) ?_
  show ma_J l g x none me_Arc_read pr_Arc_read _ 0 [some (.ref 2), some (.int (nI t)), none] [] 0 0 GS h
  have hb : isr (5 + t) := Or.inl ⟨by omega, by omega⟩
  have hra : isr a := Or.inr ha
  refine ma_run0 po_Arc_read rfl rfl [7, 9] 60 ?_
  simp only [pa_Arc_read, ma_go, ev_A, ev_B, ev_C, ev_D, Nat.reduceAdd, List.mem_cons, List.not_mem_nil, or_false, or_true, true_or, false_or, or_self, Nat.reduceEqDiff, reduceCtorEq, ↓reduceIte, List.length_cons, List.length_nil, Nat.reduceLT, Nat.reduceLeDiff, Nat.le_refl, implies_true, true_and, and_true, Option.toList, List.cons_append, List.nil_append, gs_2]
  refine ma_callD mt_Arc_isWritten rfl rfl (Nat.le_of_ble_eq_true rfl) (Nat.le_refl _) (Nat.le_refl _) (m_isWritten l g x eW (nI t)) ?_
  simp only [pa_Arc_read, ma_go, ev_A, ev_B, ev_C, ev_D, Nat.reduceAdd, List.mem_cons, List.not_mem_nil, or_false, or_true, true_or, false_or, or_self, Nat.reduceEqDiff, reduceCtorEq, ↓reduceIte, List.length_cons, List.length_nil, Nat.reduceLT, Nat.reduceLeDiff, Nat.le_refl, implies_true, true_and, and_true, Option.toList, List.cons_append, List.nil_append, gs_2]
  rw [show decide (nI 0 ≤ nI t ∧ nI t < nI W) = true from decide_eq_true ⟨nI_le (Nat.zero_le _) (by omega), nI_lt ht (by omega)⟩]
  refine ⟨fun z => absurd z (by decide +kernel), fun _ => ?_⟩
  refine ma_callD mt_Arc_isFull rfl rfl (Nat.le_of_ble_eq_true rfl) (Nat.le_refl _) (Nat.le_refl _) (m_isFull l g x (by omega) eR) ?_
  simp only [pa_Arc_read, ma_go, ev_A, ev_B, ev_C, ev_D, Nat.reduceAdd, List.mem_cons, List.not_mem_nil, or_false, or_true, true_or, false_or, or_self, Nat.reduceEqDiff, reduceCtorEq, ↓reduceIte, List.length_cons, List.length_nil, Nat.reduceLT, Nat.reduceLeDiff, Nat.le_refl, implies_true, true_and, and_true, Option.toList, List.cons_append, List.nil_append]
  rw [show decide (90 ≤ R) = false from decide_eq_false (by omega)]
  refine ⟨fun _ => ?_, fun z => absurd rfl z⟩
  refine ma_run0 po_Arc_read rfl rfl [] 60 ?_
  simp only [pa_Arc_read, ma_go, ev_A, ev_B, ev_C, ev_D, Nat.reduceAdd, List.mem_cons, List.not_mem_nil, or_false, or_true, true_or, false_or, or_self, Nat.reduceEqDiff, reduceCtorEq, ↓reduceIte, List.length_cons, List.length_nil, Nat.reduceLT, Nat.reduceLeDiff, Nat.le_refl, implies_true, true_and, and_true, Option.toList, List.cons_append, List.nil_append, gs_2, pt_Arc hp]
  rw [nI_clamp (n := t) (by omega), pt_4 hp (show t < 64 by omega)]
  refine ⟨ma_in_of gs_4 (by omega) (by decide), ?_⟩
  refine ma_callD mt_Arc_nextRead rfl rfl (Nat.le_of_ble_eq_true rfl) (Nat.le_refl _) (Nat.le_refl _) (m_nextRead l g x hp hR eR) ?_
  simp only [pa_Arc_read, ma_go, ev_A, ev_B, ev_C, ev_D, Nat.reduceAdd, List.mem_cons, List.not_mem_nil, or_false, or_true, true_or, false_or, or_self, Nat.reduceEqDiff, reduceCtorEq, ↓reduceIte, List.length_cons, List.length_nil, Nat.reduceLT, Nat.reduceLeDiff, Nat.le_refl, implies_true, true_and, and_true, Option.toList, List.cons_append, List.nil_append, gs_row hb]
  rw [ea]
  simp only [pa_Arc_read, ma_go, ev_A, ev_B, ev_C, ev_D, Nat.reduceAdd, List.mem_cons, List.not_mem_nil, or_false, or_true, true_or, false_or, or_self, Nat.reduceEqDiff, reduceCtorEq, ↓reduceIte, List.length_cons, List.length_nil, Nat.reduceLT, Nat.reduceLeDiff, Nat.le_refl, implies_true, true_and, and_true, Option.toList, List.cons_append, List.nil_append, gs_row hra]
  refine ma_callP mt_Row_become rfl rfl (Nat.le_of_ble_eq_true rfl) (Nat.le_refl _) (Nat.le_refl _) (m_become l g x hra) ?_
  intro v S' h2 hpost
  obtain ⟨rfl, rfl, o2, z1, z2, z3⟩ := hpost
  simp only [pa_Arc_read, ma_go, ev_A, ev_B, ev_C, ev_D, Nat.reduceAdd, List.mem_cons, List.not_mem_nil, or_false, or_true, true_or, false_or, or_self, Nat.reduceEqDiff, reduceCtorEq, ↓reduceIte, List.length_cons, List.length_nil, Nat.reduceLT, Nat.reduceLeDiff, Nat.le_refl, implies_true, true_and, and_true, Option.toList, List.cons_append, List.nil_append]
  have o1 := onr_uI1 h (L := [2, a]) (a := 2) 4 (nI (R + 1)) (by simp)
  obtain ⟨e3, lo, hi, hlo, hhi, e1, e2, r⟩ := rz_rf (by decide) hz
  refine ⟨onr_tr o1 (onr_mo o2 (by simp)), ?_, ?_, ?_, lo, hi, hlo, hhi, ?_, ?_, r⟩
  · rw [o2.2.1 2 (by simp; omega), uI_ne (by omega)]; exact eW
  · rw [o2.2.1 2 (by simp; omega), uI_same]
  · rw [z3, uI_ne (by omega)]; exact e3
  · rw [z1]; exact e1
  · rw [z2]; exact e2
end
