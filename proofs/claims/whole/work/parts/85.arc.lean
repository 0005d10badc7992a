/-! out and block of the class, where they answer; thrown of the reference -/
section
variable (l : Launch) (g : ma_G) {h : ma_H}
theorem m_mthrown (x : Bool) : ma_PM l g x me_Mod_thrown [.ref 184] GS h (fun v S' h' => v = some (.int (h.1 184 0)) ∧ S' = GS ∧ h' = h) := by
  refine ma_PM_of (P := pr_Mod_thrown) (by decide) rfl (Nat.le_of_ble_eq_true rfl) ?_
  show ma_J l g x none me_Mod_thrown pr_Mod_thrown _ 0 [some (.ref 184)] [] 0 0 GS h
  refine ma_run0 po_Mod_thrown rfl rfl [] 60 ?_
  simp only [pa_Mod_thrown, ma_go, ev_A, ev_B, ev_C, ev_D, Nat.reduceAdd, List.mem_cons, List.not_mem_nil, or_false, or_true, true_or, false_or, or_self, Nat.reduceEqDiff, reduceCtorEq, ↓reduceIte, List.length_cons, List.length_nil, Nat.reduceLT, Nat.reduceLeDiff, Nat.le_refl, implies_true, true_and, and_true, Option.toList, List.cons_append, List.nil_append, gs_184]
theorem m_out (hp : pt_ok h) {k n : Nat} (hn : n ≤ 160) (e : h.1 175 5 = nI n) (hk : k < n) : ma_PM l g false me_Arc_out [.ref 2, .int (nI k)] GS h (fun v S' h' => v = some (.int (h.1 181 k)) ∧ S' = GS ∧ h' = h) := by
  refine ma_PM_of (P := pr_Arc_out) (by decide) rfl (Nat.le_of_ble_eq_true rfl) ?_
  show ma_J l g false none me_Arc_out pr_Arc_out _ 0 [some (.ref 2), some (.int (nI k))] [] 0 0 GS h
  refine ma_runH (mc := 1) (ms := 6) po_Arc_out rfl rfl [7, 9, 10] (by decide) 60 (by decide) ?_
  simp only [pa_Arc_out, ma_go, ev_A, ev_B, ev_C, ev_D, Nat.reduceAdd, List.mem_cons, List.not_mem_nil, or_false, or_true, true_or, false_or, or_self, Nat.reduceEqDiff, reduceCtorEq, ↓reduceIte, List.length_cons, List.length_nil, Nat.reduceLT, Nat.reduceLeDiff, Nat.le_refl, implies_true, true_and, and_true, Option.toList, List.cons_append, List.nil_append, gs_2, gs_175, pt_Arc hp, pt_Dec hp, e]
  refine ⟨fun q => absurd ((nI_ltI (by omega) (by omega)).mp q) (by omega), fun _ => ⟨fun _ => ?_, fun q => absurd ((nI_ltI (by omega) (by omega)).mpr hk) q⟩⟩
  rw [nI_clamp (n := k) (by omega)]
  simp only [Bool.false_eq_true, false_implies, true_and]
  exact ⟨ma_in_of gs_181 (by omega) (by decide), by simp⟩
theorem m_block (hp : pt_ok h) {n b w : Nat} (hn : n ≤ 160) (e : h.1 175 5 = nI n) (hb : b < bl n) (hw : w ≤ 1) : ma_PM l g false me_Arc_block [.ref 2, .int (nI b), .int (nI w)] GS h (fun v S' h' => v = some (.int (if w = 0 then h.1 182 b else h.1 183 b)) ∧ S' = GS ∧ h' = h) := by
  refine ma_PM_of (P := pr_Arc_block) (by decide) rfl (Nat.le_of_ble_eq_true rfl) ?_
  show ma_J l g false none me_Arc_block pr_Arc_block _ 0 [some (.ref 2), some (.int (nI b)), some (.int (nI w))] [] 0 0 GS h
  have b4 : bl n ≤ 4 := by unfold bl; omega
  refine ma_runH (mc := 1) (ms := 6) po_Arc_block rfl rfl [13, 15, 16] (by decide) 60 (by decide) ?_
  simp only [pa_Arc_block, ma_go, ev_A, ev_B, ev_C, ev_D, Nat.reduceAdd, List.mem_cons, List.not_mem_nil, or_false, or_true, true_or, false_or, or_self, Nat.reduceEqDiff, reduceCtorEq, ↓reduceIte, List.length_cons, List.length_nil, Nat.reduceLT, Nat.reduceLeDiff, Nat.le_refl, implies_true, true_and, and_true, Option.toList, List.cons_append, List.nil_append, gs_2, gs_175, pt_Arc hp, pt_Dec hp, e]
  refine ⟨fun q => absurd ((nI_ltI (by omega) (by omega)).mp q) (by omega), fun _ => ?_⟩
  refine ma_callD mt_Arc_blocksOf rfl rfl (Nat.le_of_ble_eq_true rfl) (Nat.zero_le _) (Nat.zero_le _) (m_blocksOf l g false GS hn) ?_
  simp only [pa_Arc_block, ma_go, ev_A, ev_B, ev_C, ev_D, Nat.reduceAdd, List.mem_cons, List.not_mem_nil, or_false, or_true, true_or, false_or, or_self, Nat.reduceEqDiff, reduceCtorEq, ↓reduceIte, List.length_cons, List.length_nil, Nat.reduceLT, Nat.reduceLeDiff, Nat.le_refl, implies_true, true_and, and_true, Option.toList, List.cons_append, List.nil_append, gs_2, gs_175, pt_Arc hp, pt_Dec hp, e]
  rw [nI_clamp (n := b) (by omega)]
  simp only [Bool.false_eq_true, false_implies, true_and]
  refine ⟨fun q => absurd q (nI_ge hb (by omega)), fun _ => ⟨fun q => absurd ((nI_ltI (by omega) (by omega)).mp q) (by omega), fun _ => ⟨fun _ => ⟨fun q => ?_, fun q => ?_⟩, fun q => absurd (nI_le hw (by omega)) q⟩⟩⟩
  · refine ⟨ma_in_of gs_183 (by omega) (by decide), ?_⟩
    rw [if_neg (fun z => q (by rw [z]))]
  · refine ⟨ma_in_of gs_182 (by omega) (by decide), ?_⟩
    rw [if_pos ((nI_eq (by omega) (by omega)).mp q)]
end
