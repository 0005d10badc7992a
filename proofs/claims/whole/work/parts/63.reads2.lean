/-! readCut, readGrown, forge of the class -/
def fct (f : Nat → Nat) (i : Nat) : Nat → Nat := fun j => if j < i then f j else f (j + 1)
def fgr (f : Nat → Nat) (i c : Nat) : Nat → Nat := fun j => if j < i then f j else if j = i then c else f (j - 1)
section
variable (l : Launch) (g : ma_G) (x : Bool) {h : ma_H}
theorem m_readCutN {W R : Nat} (eW : h.1 2 2 = nI W) (hR : R ≤ 90) (eR : h.1 2 4 = nI R) {t i : Int32} (hn : ¬ ((nI 0 ≤ t ∧ t < nI W) ∧ R < 90 ∧ nI 0 ≤ i ∧ i ≤ nI 32)) : ma_PM l g x me_Arc_readCut [.ref 2, .int t, .int i] GS h (fun v S' h' => v = some (.int (nI 0)) ∧ S' = GS ∧ h' = h) := by
  refine ma_PM_of (P := pr_Arc_readCut) (by decide) rfl (Nat.le_of_ble_eq_true rfl) ?_
  show ma_J l g x none me_Arc_readCut pr_Arc_readCut _ 0 [some (.ref 2), some (.int t), some (.int i), none] [] 0 0 GS h
  have no : ma_J l g x none me_Arc_readCut pr_Arc_readCut (fun v S' h' => v = some (.int (nI 0)) ∧ S' = GS ∧ h' = h) 12 [some (.ref 2), some (.int t), some (.int i), none] [] 0 0 GS h := by
    refine ma_run0 po_Arc_readCut rfl rfl [] 60 ?_
    simp only [pa_Arc_readCut, ma_go, ev_A, ev_B, ev_C, ev_D, Nat.reduceAdd, List.mem_cons, List.not_mem_nil, or_false, or_true, true_or, false_or, or_self, Nat.reduceEqDiff, reduceCtorEq, ↓reduceIte, List.length_cons, List.length_nil, Nat.reduceLT, Nat.reduceLeDiff, Nat.le_refl, implies_true, true_and, and_true, Option.toList, List.cons_append, List.nil_append]
  refine ma_run0 po_Arc_readCut rfl rfl [12, 14] 60 ?_
  simp only [pa_Arc_readCut, ma_go, ev_A, ev_B, ev_C, ev_D, Nat.reduceAdd, List.mem_cons, List.not_mem_nil, or_false, or_true, true_or, false_or, or_self, Nat.reduceEqDiff, reduceCtorEq, ↓reduceIte, List.length_cons, List.length_nil, Nat.reduceLT, Nat.reduceLeDiff, Nat.le_refl, implies_true, true_and, and_true, Option.toList, List.cons_append, List.nil_append, gs_2]
  refine ma_callD mt_Arc_isWritten rfl rfl (Nat.le_of_ble_eq_true rfl) (Nat.le_refl _) (Nat.le_refl _) (m_isWritten l g x eW t) ?_
  simp only [pa_Arc_readCut, ma_go, ev_A, ev_B, ev_C, ev_D, Nat.reduceAdd, List.mem_cons, List.not_mem_nil, or_false, or_true, true_or, false_or, or_self, Nat.reduceEqDiff, reduceCtorEq, ↓reduceIte, List.length_cons, List.length_nil, Nat.reduceLT, Nat.reduceLeDiff, Nat.le_refl, implies_true, true_and, and_true, Option.toList, List.cons_append, List.nil_append, gs_2]
  by_cases q : nI 0 ≤ t ∧ t < nI W
  · rw [show decide (nI 0 ≤ t ∧ t < nI W) = true from decide_eq_true q]
    refine ⟨fun _ => no, fun _ => ?_⟩
    refine ma_callD mt_Arc_isFull rfl rfl (Nat.le_of_ble_eq_true rfl) (Nat.le_refl _) (Nat.le_refl _) (m_isFull l g x (by omega) eR) ?_
    simp only [pa_Arc_readCut, ma_go, ev_A, ev_B, ev_C, ev_D, Nat.reduceAdd, List.mem_cons, List.not_mem_nil, or_false, or_true, true_or, false_or, or_self, Nat.reduceEqDiff, reduceCtorEq, ↓reduceIte, List.length_cons, List.length_nil, Nat.reduceLT, Nat.reduceLeDiff, Nat.le_refl, implies_true, true_and, and_true, Option.toList, List.cons_append, List.nil_append]
    by_cases q2 : R < 90
    · rw [show decide (90 ≤ R) = false from decide_eq_false (by omega)]
      exact ⟨fun _ => no, fun _ => ⟨fun _ => no, fun q3 => ⟨fun q4 => absurd q4 (iN (m := 32) (by decide) (fun z => hn ⟨q, q2, z⟩) q3), fun _ => no⟩⟩⟩
    · rw [show decide (90 ≤ R) = true from decide_eq_true (by omega)]
      exact ⟨fun _ => no, fun z => absurd z (by decide +kernel)⟩
  · rw [show decide (nI 0 ≤ t ∧ t < nI W) = false from decide_eq_false q]
    exact ⟨fun _ => no, fun z => absurd rfl z⟩
theorem m_readCut (hp : pt_ok h) {W R t i a : Nat} {f : Nat → Nat} (eW : h.1 2 2 = nI W) (hW : W ≤ 64) (eR : h.1 2 4 = nI R) (hR : R < 90) (ht : t < W) (hi : i < 33) (ea : h.2.2 69 R = a) (ha : 70 ≤ a ∧ a ≤ 159) (hz : rz h (5 + t) 45 f) : ma_PM l g x me_Arc_readCut [.ref 2, .int (nI t), .int (nI i)] GS h (fun v S' h' => v = some (.int (nI 1)) ∧ S' = GS ∧ onr h h' [2, a] ∧ h'.1 2 2 = nI W ∧ h'.1 2 4 = nI (R + 1) ∧ rf h' a 44 (fct f i)) := by
  refine ma_PM_of (P := pr_Arc_readCut) (by decide) rfl (Nat.le_of_ble_eq_true rfl) ?_
  show ma_J l g x none me_Arc_readCut pr_Arc_readCut _ 0 [some (.ref 2), some (.int (nI t)), some (.int (nI i)), none] [] 0 0 GS h
  have hb : isr (5 + t) := Or.inl ⟨by omega, by omega⟩
  have hra : isr a := Or.inr ha
  refine ma_run0 po_Arc_readCut rfl rfl [12, 14] 60 ?_
  simp only [pa_Arc_readCut, ma_go, ev_A, ev_B, ev_C, ev_D, Nat.reduceAdd, List.mem_cons, List.not_mem_nil, or_false, or_true, true_or, false_or, or_self, Nat.reduceEqDiff, reduceCtorEq, ↓reduceIte, List.length_cons, List.length_nil, Nat.reduceLT, Nat.reduceLeDiff, Nat.le_refl, implies_true, true_and, and_true, Option.toList, List.cons_append, List.nil_append, gs_2]
  refine ma_callD mt_Arc_isWritten rfl rfl (Nat.le_of_ble_eq_true rfl) (Nat.le_refl _) (Nat.le_refl _) (m_isWritten l g x eW (nI t)) ?_
  simp only [pa_Arc_readCut, ma_go, ev_A, ev_B, ev_C, ev_D, Nat.reduceAdd, List.mem_cons, List.not_mem_nil, or_false, or_true, true_or, false_or, or_self, Nat.reduceEqDiff, reduceCtorEq, ↓reduceIte, List.length_cons, List.length_nil, Nat.reduceLT, Nat.reduceLeDiff, Nat.le_refl, implies_true, true_and, and_true, Option.toList, List.cons_append, List.nil_append, gs_2]
  rw [show decide (nI 0 ≤ nI t ∧ nI t < nI W) = true from decide_eq_true ⟨nI_le (Nat.zero_le _) (by omega), nI_lt ht (by omega)⟩]
  refine ⟨fun z => absurd z (by decide +kernel), fun _ => ?_⟩
  refine ma_callD mt_Arc_isFull rfl rfl (Nat.le_of_ble_eq_true rfl) (Nat.le_refl _) (Nat.le_refl _) (m_isFull l g x (by omega) eR) ?_
  simp only [pa_Arc_readCut, ma_go, ev_A, ev_B, ev_C, ev_D, Nat.reduceAdd, List.mem_cons, List.not_mem_nil, or_false, or_true, true_or, false_or, or_self, Nat.reduceEqDiff, reduceCtorEq, ↓reduceIte, List.length_cons, List.length_nil, Nat.reduceLT, Nat.reduceLeDiff, Nat.le_refl, implies_true, true_and, and_true, Option.toList, List.cons_append, List.nil_append]
  rw [show decide (90 ≤ R) = false from decide_eq_false (by omega)]
  refine ⟨fun z => absurd rfl z, fun _ => ⟨fun q => absurd ((nI_ltI (by omega) (by omega)).mp q) (by omega), fun _ => ⟨fun _ => ?_, fun q => absurd (nI_lt hi (by omega)) q⟩⟩⟩
  refine ma_run0 po_Arc_readCut rfl rfl [] 60 ?_
  simp only [pa_Arc_readCut, ma_go, ev_A, ev_B, ev_C, ev_D, Nat.reduceAdd, List.mem_cons, List.not_mem_nil, or_false, or_true, true_or, false_or, or_self, Nat.reduceEqDiff, reduceCtorEq, ↓reduceIte, List.length_cons, List.length_nil, Nat.reduceLT, Nat.reduceLeDiff, Nat.le_refl, implies_true, true_and, and_true, Option.toList, List.cons_append, List.nil_append, gs_2]
  refine ma_callD mt_Arc_nextRead rfl rfl (Nat.le_of_ble_eq_true rfl) (Nat.le_refl _) (Nat.le_refl _) (m_nextRead l g x hp hR eR) ?_
  simp only [pa_Arc_readCut, ma_go, ev_A, ev_B, ev_C, ev_D, Nat.reduceAdd, List.mem_cons, List.not_mem_nil, or_false, or_true, true_or, false_or, or_self, Nat.reduceEqDiff, reduceCtorEq, ↓reduceIte, List.length_cons, List.length_nil, Nat.reduceLT, Nat.reduceLeDiff, Nat.le_refl, implies_true, true_and, and_true, Option.toList, List.cons_append, List.nil_append]
  rw [ea]
  simp only [pa_Arc_readCut, ma_go, ev_A, ev_B, ev_C, ev_D, Nat.reduceAdd, List.mem_cons, List.not_mem_nil, or_false, or_true, true_or, false_or, or_self, Nat.reduceEqDiff, reduceCtorEq, ↓reduceIte, List.length_cons, List.length_nil, Nat.reduceLT, Nat.reduceLeDiff, Nat.le_refl, implies_true, true_and, and_true, Option.toList, List.cons_append, List.nil_append, gs_row hra]
  refine ma_callP mt_Row_become rfl rfl (Nat.le_of_ble_eq_true rfl) (Nat.le_refl _) (Nat.le_refl _) (m_become l g x hra) ?_
  intro v S' h2 hpost
  obtain ⟨rfl, rfl, o2, z1, z2, z3⟩ := hpost
  have o1 := onr_uI1 h (L := [2, a]) (a := 2) 4 (nI (R + 1)) (by simp)
  have o3 := onr_tr o1 (onr_mo (L' := [2, a]) o2 (by simp))
  have hp2 := onr_pt o3 hp
  have k2 : rf h2 (5 + t) 45 f := rf_onr o3 (by simp; omega) (rz_rf (by decide) hz)
  simp only [pa_Arc_readCut, ma_go, ev_A, ev_B, ev_C, ev_D, Nat.reduceAdd, List.mem_cons, List.not_mem_nil, or_false, or_true, true_or, false_or, or_self, Nat.reduceEqDiff, reduceCtorEq, ↓reduceIte, List.length_cons, List.length_nil, Nat.reduceLT, Nat.reduceLeDiff, Nat.le_refl, implies_true, true_and, and_true, Option.toList, List.cons_append, List.nil_append, gs_2, pt_Arc hp2]
  rw [nI_clamp (n := t) (by omega), pt_4 hp2 (show t < 64 by omega)]
  refine ⟨ma_in_of gs_4 (by omega) (by decide), ?_⟩
  simp only [pa_Arc_readCut, ma_go, ev_A, ev_B, ev_C, ev_D, Nat.reduceAdd, List.mem_cons, List.not_mem_nil, or_false, or_true, true_or, false_or, or_self, Nat.reduceEqDiff, reduceCtorEq, ↓reduceIte, List.length_cons, List.length_nil, Nat.reduceLT, Nat.reduceLeDiff, Nat.le_refl, implies_true, true_and, and_true, Option.toList, List.cons_append, List.nil_append, gs_row hra]
  refine ma_callP mt_Row_appendPart rfl rfl (Nat.le_of_ble_eq_true rfl) (Nat.le_refl _) (Nat.le_refl _) (m_appendPart l g x hra hb (by omega) (rz_0 (f := f) z3 z1 z2) k2 (by decide) (Nat.zero_le i) (show i ≤ 45 by omega) (by omega)) ?_
  intro v S' h3 hpost
  obtain ⟨rfl, rfl, o4, y1⟩ := hpost
  have o5 := onr_tr o3 (onr_mo (L' := [2, a]) o4 (by simp))
  have hp3 := onr_pt o5 hp
  have k3 : rf h3 (5 + t) 45 f := rf_onr o5 (by simp; omega) (rz_rf (by decide) hz)
  simp only [pa_Arc_readCut, ma_go, ev_A, ev_B, ev_C, ev_D, Nat.reduceAdd, List.mem_cons, List.not_mem_nil, or_false, or_true, true_or, false_or, or_self, Nat.reduceEqDiff, reduceCtorEq, ↓reduceIte, List.length_cons, List.length_nil, Nat.reduceLT, Nat.reduceLeDiff, Nat.le_refl, implies_true, true_and, and_true, Option.toList, List.cons_append, List.nil_append, gs_2, pt_Arc hp3]
  rw [nI_clamp (n := t) (by omega), pt_4 hp3 (show t < 64 by omega), nx_1]
  refine ⟨ma_in_of gs_4 (by omega) (by decide), ?_⟩
  simp only [pa_Arc_readCut, ma_go, ev_A, ev_B, ev_C, ev_D, Nat.reduceAdd, List.mem_cons, List.not_mem_nil, or_false, or_true, true_or, false_or, or_self, Nat.reduceEqDiff, reduceCtorEq, ↓reduceIte, List.length_cons, List.length_nil, Nat.reduceLT, Nat.reduceLeDiff, Nat.le_refl, implies_true, true_and, and_true, Option.toList, List.cons_append, List.nil_append, gs_row hra]
  refine ma_callP mt_Row_appendPart rfl rfl (Nat.le_of_ble_eq_true rfl) (Nat.le_refl _) (Nat.le_refl _) (m_appendPart l g x hra hb (by omega) y1 k3 (by decide) (show i + 1 ≤ 45 by omega) (Nat.le_refl 45) (by omega)) ?_
  intro v S' h4 hpost
  obtain ⟨rfl, rfl, o6, y2⟩ := hpost
  simp only [pa_Arc_readCut, ma_go, ev_A, ev_B, ev_C, ev_D, Nat.reduceAdd, List.mem_cons, List.not_mem_nil, or_false, or_true, true_or, false_or, or_self, Nat.reduceEqDiff, reduceCtorEq, ↓reduceIte, List.length_cons, List.length_nil, Nat.reduceLT, Nat.reduceLeDiff, Nat.le_refl, implies_true, true_and, and_true, Option.toList, List.cons_append, List.nil_append]
  have o7 := onr_tr o5 (onr_mo (L' := [2, a]) o6 (by simp))
  have e2 : h4.1 2 = (ma_uI h 2 4 (nI (R + 1))).1 2 := by rw [o6.2.1 2 (by simp; omega), o4.2.1 2 (by simp; omega), o2.2.1 2 (by simp; omega)]
  refine ⟨o7, ?_, ?_, ?_⟩
  · rw [e2, uI_ne (by omega)]; exact eW
  · rw [e2, uI_same]
  · rw [show 0 + (i - 0) + (45 - (i + 1)) = 44 by omega] at y2
    refine rz_rf (by decide) (rz_congr (fun j hj => ?_) y2)
    unfold ap fct
    by_cases q : j < i
    · rw [if_pos (by omega), if_neg (by omega), if_pos q]
      congr 1
      omega
    · rw [if_neg (by omega), if_neg q]
      congr 1
      omega
theorem m_readGrownN {W R : Nat} (eW : h.1 2 2 = nI W) (hR : R ≤ 90) (eR : h.1 2 4 = nI R) {t i c : Int32} (hn : ¬ ((nI 0 ≤ t ∧ t < nI W) ∧ R < 90 ∧ (nI 0 ≤ i ∧ i ≤ nI 33) ∧ nI 0 ≤ c ∧ c ≤ nI 3)) : ma_PM l g x me_Arc_readGrown [.ref 2, .int t, .int i, .int c] GS h (fun v S' h' => v = some (.int (nI 0)) ∧ S' = GS ∧ h' = h) := by
  refine ma_PM_of (P := pr_Arc_readGrown) (by decide) rfl (Nat.le_of_ble_eq_true rfl) ?_
  show ma_J l g x none me_Arc_readGrown pr_Arc_readGrown _ 0 [some (.ref 2), some (.int t), some (.int i), some (.int c), none] [] 0 0 GS h
  have no : ma_J l g x none me_Arc_readGrown pr_Arc_readGrown (fun v S' h' => v = some (.int (nI 0)) ∧ S' = GS ∧ h' = h) 17 [some (.ref 2), some (.int t), some (.int i), some (.int c), none] [] 0 0 GS h := by
    refine ma_run0 po_Arc_readGrown rfl rfl [] 60 ?_
    simp only [pa_Arc_readGrown, ma_go, ev_A, ev_B, ev_C, ev_D, Nat.reduceAdd, List.mem_cons, List.not_mem_nil, or_false, or_true, true_or, false_or, or_self, Nat.reduceEqDiff, reduceCtorEq, ↓reduceIte, List.length_cons, List.length_nil, Nat.reduceLT, Nat.reduceLeDiff, Nat.le_refl, implies_true, true_and, and_true, Option.toList, List.cons_append, List.nil_append]
  refine ma_run0 po_Arc_readGrown rfl rfl [17, 19] 60 ?_
  simp only [pa_Arc_readGrown, ma_go, ev_A, ev_B, ev_C, ev_D, Nat.reduceAdd, List.mem_cons, List.not_mem_nil, or_false, or_true, true_or, false_or, or_self, Nat.reduceEqDiff, reduceCtorEq, ↓reduceIte, List.length_cons, List.length_nil, Nat.reduceLT, Nat.reduceLeDiff, Nat.le_refl, implies_true, true_and, and_true, Option.toList, List.cons_append, List.nil_append, gs_2]
  refine ma_callD mt_Arc_isWritten rfl rfl (Nat.le_of_ble_eq_true rfl) (Nat.le_refl _) (Nat.le_refl _) (m_isWritten l g x eW t) ?_
  simp only [pa_Arc_readGrown, ma_go, ev_A, ev_B, ev_C, ev_D, Nat.reduceAdd, List.mem_cons, List.not_mem_nil, or_false, or_true, true_or, false_or, or_self, Nat.reduceEqDiff, reduceCtorEq, ↓reduceIte, List.length_cons, List.length_nil, Nat.reduceLT, Nat.reduceLeDiff, Nat.le_refl, implies_true, true_and, and_true, Option.toList, List.cons_append, List.nil_append, gs_2]
  by_cases q : nI 0 ≤ t ∧ t < nI W
  · rw [show decide (nI 0 ≤ t ∧ t < nI W) = true from decide_eq_true q]
    refine ⟨fun _ => no, fun _ => ?_⟩
    refine ma_callD mt_Arc_isFull rfl rfl (Nat.le_of_ble_eq_true rfl) (Nat.le_refl _) (Nat.le_refl _) (m_isFull l g x (by omega) eR) ?_
    simp only [pa_Arc_readGrown, ma_go, ev_A, ev_B, ev_C, ev_D, Nat.reduceAdd, List.mem_cons, List.not_mem_nil, or_false, or_true, true_or, false_or, or_self, Nat.reduceEqDiff, reduceCtorEq, ↓reduceIte, List.length_cons, List.length_nil, Nat.reduceLT, Nat.reduceLeDiff, Nat.le_refl, implies_true, true_and, and_true, Option.toList, List.cons_append, List.nil_append]
    by_cases q2 : R < 90
    · rw [show decide (90 ≤ R) = false from decide_eq_false (by omega)]
      refine ⟨fun _ => no, fun _ => ⟨fun _ => no, fun q3 => ⟨fun _ => no, fun q4 => ⟨fun _ => no, fun q5 => ⟨fun q6 => ?_, fun _ => no⟩⟩⟩⟩⟩
      refine absurd q6 (iN (m := 3) (by decide) (fun z => hn ⟨q, q2, ?_, z⟩) q5)
      rw [Int32.lt_iff_toInt_lt] at q3 q4
      exact ⟨Int32.le_iff_toInt_le.mpr (by omega), Int32.le_iff_toInt_le.mpr (by omega)⟩
    · rw [show decide (90 ≤ R) = true from decide_eq_true (by omega)]
      exact ⟨fun _ => no, fun z => absurd z (by decide +kernel)⟩
  · rw [show decide (nI 0 ≤ t ∧ t < nI W) = false from decide_eq_false q]
    exact ⟨fun _ => no, fun z => absurd rfl z⟩
theorem m_readGrown (hp : pt_ok h) {W R t i c a : Nat} {f : Nat → Nat} (eW : h.1 2 2 = nI W) (hW : W ≤ 64) (eR : h.1 2 4 = nI R) (hR : R < 90) (ht : t < W) (hi : i ≤ 33) (hc : c < 4) (ea : h.2.2 69 R = a) (ha : 70 ≤ a ∧ a ≤ 159) (hz : rz h (5 + t) 45 f) : ma_PM l g x me_Arc_readGrown [.ref 2, .int (nI t), .int (nI i), .int (nI c)] GS h (fun v S' h' => v = some (.int (nI 1)) ∧ S' = GS ∧ onr h h' [2, a] ∧ h'.1 2 2 = nI W ∧ h'.1 2 4 = nI (R + 1) ∧ rf h' a 46 (fgr f i c)) := by
  refine ma_PM_of (P := pr_Arc_readGrown) (by decide) rfl (Nat.le_of_ble_eq_true rfl) ?_
  show ma_J l g x none me_Arc_readGrown pr_Arc_readGrown _ 0 [some (.ref 2), some (.int (nI t)), some (.int (nI i)), some (.int (nI c)), none] [] 0 0 GS h
  have hb : isr (5 + t) := Or.inl ⟨by omega, by omega⟩
  have hra : isr a := Or.inr ha
  refine ma_run0 po_Arc_readGrown rfl rfl [17, 19] 60 ?_
  simp only [pa_Arc_readGrown, ma_go, ev_A, ev_B, ev_C, ev_D, Nat.reduceAdd, List.mem_cons, List.not_mem_nil, or_false, or_true, true_or, false_or, or_self, Nat.reduceEqDiff, reduceCtorEq, ↓reduceIte, List.length_cons, List.length_nil, Nat.reduceLT, Nat.reduceLeDiff, Nat.le_refl, implies_true, true_and, and_true, Option.toList, List.cons_append, List.nil_append, gs_2]
  refine ma_callD mt_Arc_isWritten rfl rfl (Nat.le_of_ble_eq_true rfl) (Nat.le_refl _) (Nat.le_refl _) (m_isWritten l g x eW (nI t)) ?_
  simp only [pa_Arc_readGrown, ma_go, ev_A, ev_B, ev_C, ev_D, Nat.reduceAdd, List.mem_cons, List.not_mem_nil, or_false, or_true, true_or, false_or, or_self, Nat.reduceEqDiff, reduceCtorEq, ↓reduceIte, List.length_cons, List.length_nil, Nat.reduceLT, Nat.reduceLeDiff, Nat.le_refl, implies_true, true_and, and_true, Option.toList, List.cons_append, List.nil_append, gs_2]
  rw [show decide (nI 0 ≤ nI t ∧ nI t < nI W) = true from decide_eq_true ⟨nI_le (Nat.zero_le _) (by omega), nI_lt ht (by omega)⟩]
  refine ⟨fun z => absurd z (by decide +kernel), fun _ => ?_⟩
  refine ma_callD mt_Arc_isFull rfl rfl (Nat.le_of_ble_eq_true rfl) (Nat.le_refl _) (Nat.le_refl _) (m_isFull l g x (by omega) eR) ?_
  simp only [pa_Arc_readGrown, ma_go, ev_A, ev_B, ev_C, ev_D, Nat.reduceAdd, List.mem_cons, List.not_mem_nil, or_false, or_true, true_or, false_or, or_self, Nat.reduceEqDiff, reduceCtorEq, ↓reduceIte, List.length_cons, List.length_nil, Nat.reduceLT, Nat.reduceLeDiff, Nat.le_refl, implies_true, true_and, and_true, Option.toList, List.cons_append, List.nil_append]
  rw [show decide (90 ≤ R) = false from decide_eq_false (by omega)]
  refine ⟨fun z => absurd rfl z, fun _ => ⟨fun q => absurd ((nI_ltI (by omega) (by omega)).mp q) (by omega), fun _ => ⟨fun q => absurd ((nI_ltI (by omega) (by omega)).mp q) (by omega), fun _ => ⟨fun q => absurd ((nI_ltI (by omega) (by omega)).mp q) (by omega), fun _ => ⟨fun _ => ?_, fun q => absurd (nI_lt hc (by omega)) q⟩⟩⟩⟩⟩
  refine ma_run0 po_Arc_readGrown rfl rfl [] 60 ?_
  simp only [pa_Arc_readGrown, ma_go, ev_A, ev_B, ev_C, ev_D, Nat.reduceAdd, List.mem_cons, List.not_mem_nil, or_false, or_true, true_or, false_or, or_self, Nat.reduceEqDiff, reduceCtorEq, ↓reduceIte, List.length_cons, List.length_nil, Nat.reduceLT, Nat.reduceLeDiff, Nat.le_refl, implies_true, true_and, and_true, Option.toList, List.cons_append, List.nil_append, gs_2]
  refine ma_callD mt_Arc_nextRead rfl rfl (Nat.le_of_ble_eq_true rfl) (Nat.le_refl _) (Nat.le_refl _) (m_nextRead l g x hp hR eR) ?_
  simp only [pa_Arc_readGrown, ma_go, ev_A, ev_B, ev_C, ev_D, Nat.reduceAdd, List.mem_cons, List.not_mem_nil, or_false, or_true, true_or, false_or, or_self, Nat.reduceEqDiff, reduceCtorEq, ↓reduceIte, List.length_cons, List.length_nil, Nat.reduceLT, Nat.reduceLeDiff, Nat.le_refl, implies_true, true_and, and_true, Option.toList, List.cons_append, List.nil_append]
  rw [ea]
  simp only [pa_Arc_readGrown, ma_go, ev_A, ev_B, ev_C, ev_D, Nat.reduceAdd, List.mem_cons, List.not_mem_nil, or_false, or_true, true_or, false_or, or_self, Nat.reduceEqDiff, reduceCtorEq, ↓reduceIte, List.length_cons, List.length_nil, Nat.reduceLT, Nat.reduceLeDiff, Nat.le_refl, implies_true, true_and, and_true, Option.toList, List.cons_append, List.nil_append, gs_row hra]
  refine ma_callP mt_Row_become rfl rfl (Nat.le_of_ble_eq_true rfl) (Nat.le_refl _) (Nat.le_refl _) (m_become l g x hra) ?_
  intro v S' h2 hpost
  obtain ⟨rfl, rfl, o2, z1, z2, z3⟩ := hpost
  have o1 := onr_uI1 h (L := [2, a]) (a := 2) 4 (nI (R + 1)) (by simp)
  have o3 := onr_tr o1 (onr_mo (L' := [2, a]) o2 (by simp))
  have hp2 := onr_pt o3 hp
  have k2 : rf h2 (5 + t) 45 f := rf_onr o3 (by simp; omega) (rz_rf (by decide) hz)
  simp only [pa_Arc_readGrown, ma_go, ev_A, ev_B, ev_C, ev_D, Nat.reduceAdd, List.mem_cons, List.not_mem_nil, or_false, or_true, true_or, false_or, or_self, Nat.reduceEqDiff, reduceCtorEq, ↓reduceIte, List.length_cons, List.length_nil, Nat.reduceLT, Nat.reduceLeDiff, Nat.le_refl, implies_true, true_and, and_true, Option.toList, List.cons_append, List.nil_append, gs_2, pt_Arc hp2]
  rw [nI_clamp (n := t) (by omega), pt_4 hp2 (show t < 64 by omega)]
  refine ⟨ma_in_of gs_4 (by omega) (by decide), ?_⟩
  simp only [pa_Arc_readGrown, ma_go, ev_A, ev_B, ev_C, ev_D, Nat.reduceAdd, List.mem_cons, List.not_mem_nil, or_false, or_true, true_or, false_or, or_self, Nat.reduceEqDiff, reduceCtorEq, ↓reduceIte, List.length_cons, List.length_nil, Nat.reduceLT, Nat.reduceLeDiff, Nat.le_refl, implies_true, true_and, and_true, Option.toList, List.cons_append, List.nil_append, gs_row hra]
  refine ma_callP mt_Row_appendPart rfl rfl (Nat.le_of_ble_eq_true rfl) (Nat.le_refl _) (Nat.le_refl _) (m_appendPart l g x hra hb (by omega) (rz_0 (f := f) z3 z1 z2) k2 (by decide) (Nat.zero_le i) (show i ≤ 45 by omega) (by omega)) ?_
  intro v S' h3 hpost
  obtain ⟨rfl, rfl, o4, y1⟩ := hpost
  simp only [pa_Arc_readGrown, ma_go, ev_A, ev_B, ev_C, ev_D, Nat.reduceAdd, List.mem_cons, List.not_mem_nil, or_false, or_true, true_or, false_or, or_self, Nat.reduceEqDiff, reduceCtorEq, ↓reduceIte, List.length_cons, List.length_nil, Nat.reduceLT, Nat.reduceLeDiff, Nat.le_refl, implies_true, true_and, and_true, Option.toList, List.cons_append, List.nil_append, gs_row hra]
  refine ma_callP mt_Row_append rfl rfl (Nat.le_of_ble_eq_true rfl) (Nat.le_refl _) (Nat.le_refl _) (m_append l g x hra y1 (by omega) hc) ?_
  intro v S' h4 hpost
  obtain ⟨rfl, rfl, o5, y2⟩ := hpost
  have o6 := onr_tr o3 (onr_tr (onr_mo (L' := [2, a]) o4 (by simp)) (onr_mo (L' := [2, a]) o5 (by simp)))
  have hp4 := onr_pt o6 hp
  have k4 : rf h4 (5 + t) 45 f := rf_onr o6 (by simp; omega) (rz_rf (by decide) hz)
  simp only [pa_Arc_readGrown, ma_go, ev_A, ev_B, ev_C, ev_D, Nat.reduceAdd, List.mem_cons, List.not_mem_nil, or_false, or_true, true_or, false_or, or_self, Nat.reduceEqDiff, reduceCtorEq, ↓reduceIte, List.length_cons, List.length_nil, Nat.reduceLT, Nat.reduceLeDiff, Nat.le_refl, implies_true, true_and, and_true, Option.toList, List.cons_append, List.nil_append, gs_2, pt_Arc hp4]
  rw [nI_clamp (n := t) (by omega), pt_4 hp4 (show t < 64 by omega)]
  refine ⟨ma_in_of gs_4 (by omega) (by decide), ?_⟩
  simp only [pa_Arc_readGrown, ma_go, ev_A, ev_B, ev_C, ev_D, Nat.reduceAdd, List.mem_cons, List.not_mem_nil, or_false, or_true, true_or, false_or, or_self, Nat.reduceEqDiff, reduceCtorEq, ↓reduceIte, List.length_cons, List.length_nil, Nat.reduceLT, Nat.reduceLeDiff, Nat.le_refl, implies_true, true_and, and_true, Option.toList, List.cons_append, List.nil_append, gs_row hra]
  refine ma_callP mt_Row_appendPart rfl rfl (Nat.le_of_ble_eq_true rfl) (Nat.le_refl _) (Nat.le_refl _) (m_appendPart l g x hra hb (by omega) y2 k4 (by decide) (show i ≤ 45 by omega) (Nat.le_refl 45) (by omega)) ?_
  intro v S' h5 hpost
  obtain ⟨rfl, rfl, o7, y3⟩ := hpost
  simp only [pa_Arc_readGrown, ma_go, ev_A, ev_B, ev_C, ev_D, Nat.reduceAdd, List.mem_cons, List.not_mem_nil, or_false, or_true, true_or, false_or, or_self, Nat.reduceEqDiff, reduceCtorEq, ↓reduceIte, List.length_cons, List.length_nil, Nat.reduceLT, Nat.reduceLeDiff, Nat.le_refl, implies_true, true_and, and_true, Option.toList, List.cons_append, List.nil_append]
  have o8 := onr_tr o6 (onr_mo (L' := [2, a]) o7 (by simp))
  have e2 : h5.1 2 = (ma_uI h 2 4 (nI (R + 1))).1 2 := by rw [o7.2.1 2 (by simp; omega), o5.2.1 2 (by simp; omega), o4.2.1 2 (by simp; omega), o2.2.1 2 (by simp; omega)]
  refine ⟨o8, ?_, ?_, ?_⟩
  · rw [e2, uI_ne (by omega)]; exact eW
  · rw [e2, uI_same]
  · rw [show 0 + (i - 0) + 1 + (45 - i) = 46 by omega] at y3
    refine rz_rf (by decide) (rz_congr (fun j hj => ?_) y3)
    unfold ap up fgr
    dsimp only
    by_cases q : j < i
    · rw [if_pos (by omega), if_neg (by omega), if_neg (by omega), if_pos q]
      congr 1
      omega
    · rw [if_neg q]
      by_cases q2 : j = i
      · rw [if_pos (by omega), if_pos (by omega), if_pos q2]
      · rw [if_neg (by omega), if_neg q2]
        congr 1
        omega
theorem m_forgeN {R : Nat} (hR : R ≤ 90) (eR : h.1 2 4 = nI R) {u v : Int64} {n : Int32} (hn : ¬ (R < 90 ∧ nI 0 ≤ n ∧ n ≤ nI 60)) : ma_PM l g x me_Arc_forge [.ref 2, .long u, .long v, .int n] GS h (fun v S' h' => v = some (.int (nI 0)) ∧ S' = GS ∧ h' = h) := by
  refine ma_PM_of (P := pr_Arc_forge) (by decide) rfl (Nat.le_of_ble_eq_true rfl) ?_
  show ma_J l g x none me_Arc_forge pr_Arc_forge _ 0 [some (.ref 2), some (.long u), none, some (.long v), none, some (.int n)] [] 0 0 GS h
  have no : ma_J l g x none me_Arc_forge pr_Arc_forge (fun v S' h' => v = some (.int (nI 0)) ∧ S' = GS ∧ h' = h) 8 [some (.ref 2), some (.long u), none, some (.long v), none, some (.int n)] [] 0 0 GS h := by
    refine ma_run0 po_Arc_forge rfl rfl [] 60 ?_
    simp only [pa_Arc_forge, ma_go, ev_A, ev_B, ev_C, ev_D, Nat.reduceAdd, List.mem_cons, List.not_mem_nil, or_false, or_true, true_or, false_or, or_self, Nat.reduceEqDiff, reduceCtorEq, ↓reduceIte, List.length_cons, List.length_nil, Nat.reduceLT, Nat.reduceLeDiff, Nat.le_refl, implies_true, true_and, and_true, Option.toList, List.cons_append, List.nil_append]
  refine ma_run0 po_Arc_forge rfl rfl [8, 10] 60 ?_
  simp only [pa_Arc_forge, ma_go, ev_A, ev_B, ev_C, ev_D, Nat.reduceAdd, List.mem_cons, List.not_mem_nil, or_false, or_true, true_or, false_or, or_self, Nat.reduceEqDiff, reduceCtorEq, ↓reduceIte, List.length_cons, List.length_nil, Nat.reduceLT, Nat.reduceLeDiff, Nat.le_refl, implies_true, true_and, and_true, Option.toList, List.cons_append, List.nil_append, gs_2]
  refine ma_callD mt_Arc_isFull rfl rfl (Nat.le_of_ble_eq_true rfl) (Nat.le_refl _) (Nat.le_refl _) (m_isFull l g x (by omega) eR) ?_
  simp only [pa_Arc_forge, ma_go, ev_A, ev_B, ev_C, ev_D, Nat.reduceAdd, List.mem_cons, List.not_mem_nil, or_false, or_true, true_or, false_or, or_self, Nat.reduceEqDiff, reduceCtorEq, ↓reduceIte, List.length_cons, List.length_nil, Nat.reduceLT, Nat.reduceLeDiff, Nat.le_refl, implies_true, true_and, and_true, Option.toList, List.cons_append, List.nil_append]
  by_cases q2 : R < 90
  · rw [show decide (90 ≤ R) = false from decide_eq_false (by omega)]
    refine ⟨fun _ => no, fun _ => ⟨fun _ => no, fun q3 => ⟨fun q4 => ?_, fun _ => no⟩⟩⟩
    rw [Int32.lt_iff_toInt_lt] at q3
    exact absurd ⟨q2, Int32.le_iff_toInt_le.mpr (by omega), q4⟩ hn
  · rw [show decide (90 ≤ R) = true from decide_eq_true (by omega)]
    exact ⟨fun _ => no, fun z => absurd z (by decide +kernel)⟩
theorem m_forge (hp : pt_ok h) {R n a lo hi : Nat} (eR : h.1 2 4 = nI R) (hR : R < 90) (hn : n ≤ 60) (hlo : lo < 2 ^ 64) (hhi : hi < 2 ^ 64) (ea : h.2.2 69 R = a) (ha : 70 ≤ a ∧ a ≤ 159) : ma_PM l g x me_Arc_forge [.ref 2, .long (lN lo), .long (lN hi), .int (nI n)] GS h (fun v S' h' => v = some (.int (nI 1)) ∧ S' = GS ∧ onr h h' [2, a] ∧ h'.1 2 2 = h.1 2 2 ∧ h'.1 2 4 = nI (R + 1) ∧ rf h' a n (rl lo hi)) := by
  refine ma_PM_of (P := pr_Arc_forge) (by decide) rfl (Nat.le_of_ble_eq_true rfl) ?_
  show ma_J l g x none me_Arc_forge pr_Arc_forge _ 0 [some (.ref 2), some (.long (lN lo)), none, some (.long (lN hi)), none, some (.int (nI n))] [] 0 0 GS h
  have hra : isr a := Or.inr ha
  refine ma_run0 po_Arc_forge rfl rfl [8, 10] 60 ?_
  simp only [pa_Arc_forge, ma_go, ev_A, ev_B, ev_C, ev_D, Nat.reduceAdd, List.mem_cons, List.not_mem_nil, or_false, or_true, true_or, false_or, or_self, Nat.reduceEqDiff, reduceCtorEq, ↓reduceIte, List.length_cons, List.length_nil, Nat.reduceLT, Nat.reduceLeDiff, Nat.le_refl, implies_true, true_and, and_true, Option.toList, List.cons_append, List.nil_append, gs_2]
  refine ma_callD mt_Arc_isFull rfl rfl (Nat.le_of_ble_eq_true rfl) (Nat.le_refl _) (Nat.le_refl _) (m_isFull l g x (by omega) eR) ?_
  simp only [pa_Arc_forge, ma_go, ev_A, ev_B, ev_C, ev_D, Nat.reduceAdd, List.mem_cons, List.not_mem_nil, or_false, or_true, true_or, false_or, or_self, Nat.reduceEqDiff, reduceCtorEq, ↓reduceIte, List.length_cons, List.length_nil, Nat.reduceLT, Nat.reduceLeDiff, Nat.le_refl, implies_true, true_and, and_true, Option.toList, List.cons_append, List.nil_append]
  rw [show decide (90 ≤ R) = false from decide_eq_false (by omega)]
  refine ⟨fun z => absurd rfl z, fun _ => ⟨fun q => absurd ((nI_ltI (by omega) (by omega)).mp q) (by omega), fun _ => ⟨fun _ => ?_, fun q => absurd (nI_le hn (by omega)) q⟩⟩⟩
  refine ma_run0 po_Arc_forge rfl rfl [] 60 ?_
  simp only [pa_Arc_forge, ma_go, ev_A, ev_B, ev_C, ev_D, Nat.reduceAdd, List.mem_cons, List.not_mem_nil, or_false, or_true, true_or, false_or, or_self, Nat.reduceEqDiff, reduceCtorEq, ↓reduceIte, List.length_cons, List.length_nil, Nat.reduceLT, Nat.reduceLeDiff, Nat.le_refl, implies_true, true_and, and_true, Option.toList, List.cons_append, List.nil_append, gs_2]
  refine ma_callD mt_Arc_nextRead rfl rfl (Nat.le_of_ble_eq_true rfl) (Nat.le_refl _) (Nat.le_refl _) (m_nextRead l g x hp hR eR) ?_
  simp only [pa_Arc_forge, ma_go, ev_A, ev_B, ev_C, ev_D, Nat.reduceAdd, List.mem_cons, List.not_mem_nil, or_false, or_true, true_or, false_or, or_self, Nat.reduceEqDiff, reduceCtorEq, ↓reduceIte, List.length_cons, List.length_nil, Nat.reduceLT, Nat.reduceLeDiff, Nat.le_refl, implies_true, true_and, and_true, Option.toList, List.cons_append, List.nil_append]
  rw [ea]
  simp only [pa_Arc_forge, ma_go, ev_A, ev_B, ev_C, ev_D, Nat.reduceAdd, List.mem_cons, List.not_mem_nil, or_false, or_true, true_or, false_or, or_self, Nat.reduceEqDiff, reduceCtorEq, ↓reduceIte, List.length_cons, List.length_nil, Nat.reduceLT, Nat.reduceLeDiff, Nat.le_refl, implies_true, true_and, and_true, Option.toList, List.cons_append, List.nil_append, gs_row hra]
  refine ma_callP mt_Row_become rfl rfl (Nat.le_of_ble_eq_true rfl) (Nat.le_refl _) (Nat.le_refl _) (m_become l g x hra) ?_
  intro v S' h2 hpost
  obtain ⟨rfl, rfl, o2, z1, z2, z3⟩ := hpost
  simp only [pa_Arc_forge, ma_go, ev_A, ev_B, ev_C, ev_D, Nat.reduceAdd, List.mem_cons, List.not_mem_nil, or_false, or_true, true_or, false_or, or_self, Nat.reduceEqDiff, reduceCtorEq, ↓reduceIte, List.length_cons, List.length_nil, Nat.reduceLT, Nat.reduceLeDiff, Nat.le_refl, implies_true, true_and, and_true, Option.toList, List.cons_append, List.nil_append]
  have o1 := onr_uI1 h (L := [2, a]) (a := 2) 4 (nI (R + 1)) (by simp)
  refine ⟨onr_tr o1 (onr_mo o2 (by simp)), ?_, ?_, z3, lo, hi, hlo, hhi, z1, z2, fun k _ => rfl⟩
  · rw [o2.2.1 2 (by simp; omega), uI_ne (by omega)]
  · rw [o2.2.1 2 (by simp; omega), uI_same]
end
