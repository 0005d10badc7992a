/-! Field: times, over, powerOfTwo -/
def fd_ok (h : ma_H) : Prop := h.2.2 160 0 = 161 ∧ h.2.2 160 1 = 162 ∧ (∀ i, i < 255 → h.1 161 i = nI (gf_ex i)) ∧ (∀ a, 1 ≤ a → a < 256 → h.1 162 a = nI (gf_lg a))
theorem gf_lg_lt {a : Nat} (h : a < 256) : gf_lg a < 255 := by
  rcases gf_t2 a h with h1 | h1
  · subst h1; decide
  · exact h1.1
theorem m_times (l : Launch) (g : ma_G) (x : Bool) {h : ma_H} (hf : fd_ok h) {a b : Nat} (ha : a < 256) (hb : b < 256) : ma_PM l g x me_Fld_times [.ref 160, .int (nI a), .int (nI b)] GS h (fun v S' h' => v = some (.int (nI (gf_m a b))) ∧ S' = GS ∧ h' = h) := by
  obtain ⟨f1, f2, f3, f4⟩ := hf
  refine ma_PM_of (P := pr_Fld_times) (by decide) rfl (Nat.le_of_ble_eq_true rfl) ?_
  show ma_J l g x none me_Fld_times pr_Fld_times _ 0 [some (.ref 160), some (.int (nI a)), some (.int (nI b))] [] 0 0 GS h
  refine ma_run0 po_Fld_times rfl rfl [] 60 ?_
  simp only [pa_Fld_times, ma_go, ev_A, ev_B, ev_C, ev_D, Nat.reduceAdd, List.mem_cons, List.not_mem_nil, or_false, or_true, true_or, false_or, or_self, Nat.reduceEqDiff, reduceCtorEq, ↓reduceIte, List.length_cons, List.length_nil, Nat.reduceLT, Nat.reduceLeDiff, Nat.le_refl, implies_true, true_and, and_true, Option.toList, List.cons_append, List.nil_append, f1, f2, gs_160]
  have la := gf_lg_lt ha
  have lb := gf_lg_lt hb
  have z : ∀ c : Nat, c < 256 → (nI c = nI 0 ↔ c = 0) := fun c hc => nI_eq (by omega) (by omega)
  refine ⟨fun e => ?_, fun e => ⟨fun e2 => ?_, fun e2 => ?_⟩⟩
  · rw [(z a ha).mp e, gf_m_zero_left]
  · have a0 : a ≠ 0 := fun q => e ((z a ha).mpr q)
    have b0 : b ≠ 0 := fun q => e2 ((z b hb).mpr q)
    rw [nI_clamp (by omega), nI_clamp (by omega), f4 a (by omega) ha, f4 b (by omega) hb, nI_add, ma_irem_nI (by omega) (by omega) (by omega), nI_clamp (by omega), f3 _ (Nat.mod_lt _ (by decide))]
    refine ⟨ma_in_of gs_162 ha (by decide), ma_in_of gs_162 hb (by decide), nx_ne0 (by decide) (by decide), ma_in_of gs_161 (Nat.mod_lt _ (by decide)) (by decide), ?_⟩
    rw [gf_ex_mod, gf_m, if_neg (by omega)]
  · rw [(z b hb).mp e2, gf_m_zero_right]
theorem m_powerOfTwo (l : Launch) (g : ma_G) (x : Bool) {h : ma_H} (hf : fd_ok h) {n : Nat} (hn : n < 2 ^ 31) : ma_PM l g x me_Fld_powerOfTwo [.ref 160, .int (nI n)] GS h (fun v S' h' => v = some (.int (nI (gf_ex n))) ∧ S' = GS ∧ h' = h) := by
  obtain ⟨f1, f2, f3, f4⟩ := hf
  refine ma_PM_of (P := pr_Fld_powerOfTwo) (by decide) rfl (Nat.le_of_ble_eq_true rfl) ?_
  show ma_J l g x none me_Fld_powerOfTwo pr_Fld_powerOfTwo _ 0 [some (.ref 160), some (.int (nI n))] [] 0 0 GS h
  refine ma_run0 po_Fld_powerOfTwo rfl rfl [] 60 ?_
  simp only [pa_Fld_powerOfTwo, ma_go, ev_A, ev_B, ev_C, ev_D, Nat.reduceAdd, List.mem_cons, List.not_mem_nil, or_false, or_true, true_or, false_or, or_self, Nat.reduceEqDiff, reduceCtorEq, ↓reduceIte, List.length_cons, List.length_nil, Nat.reduceLT, Nat.reduceLeDiff, Nat.le_refl, implies_true, true_and, and_true, Option.toList, List.cons_append, List.nil_append, f1, f2, gs_160]
  rw [ma_irem_nI hn (by omega) (by omega), nI_clamp (by omega), f3 _ (Nat.mod_lt _ (by decide)), gf_ex_mod]
  exact ⟨nx_ne0 (by decide) (by decide), ma_in_of gs_161 (Nat.mod_lt _ (by decide)) (by decide), rfl⟩
theorem m_over (l : Launch) (g : ma_G) (x : Bool) {h : ma_H} (hf : fd_ok h) {a b : Nat} (ha : a < 256) (hb : b < 256) (hb0 : b ≠ 0) : ma_PM l g x me_Fld_over [.ref 160, .int (nI a), .int (nI b)] GS h (fun v S' h' => v = some (.int (nI (gf_m a (gf_inv b)))) ∧ S' = GS ∧ h' = h) := by
  obtain ⟨f1, f2, f3, f4⟩ := hf
  refine ma_PM_of (P := pr_Fld_over) (by decide) rfl (Nat.le_of_ble_eq_true rfl) ?_
  show ma_J l g x none me_Fld_over pr_Fld_over _ 0 [some (.ref 160), some (.int (nI a)), some (.int (nI b))] [] 0 0 GS h
  refine ma_run0 po_Fld_over rfl rfl [] 60 ?_
  simp only [pa_Fld_over, ma_go, ev_A, ev_B, ev_C, ev_D, Nat.reduceAdd, List.mem_cons, List.not_mem_nil, or_false, or_true, true_or, false_or, or_self, Nat.reduceEqDiff, reduceCtorEq, ↓reduceIte, List.length_cons, List.length_nil, Nat.reduceLT, Nat.reduceLeDiff, Nat.le_refl, implies_true, true_and, and_true, Option.toList, List.cons_append, List.nil_append, f1, f2, gs_160]
  have la := gf_lg_lt ha
  have lb := gf_lg_lt hb
  have z : ∀ c : Nat, c < 256 → (nI c = nI 0 ↔ c = 0) := fun c hc => nI_eq (by omega) (by omega)
  refine ⟨fun e => ?_, fun e => ⟨fun e2 => ?_, fun e2 => ?_⟩⟩
  · rw [(z a ha).mp e, gf_m_zero_left]
  · have a0 : a ≠ 0 := fun q => e ((z a ha).mpr q)
    have e3 : nI (gf_lg a) - nI (gf_lg b) + nI 255 = nI (gf_lg a + 255 - gf_lg b) := by
      rw [← nx_sub' (by omega), ← nI_add, Int32.sub_eq_add_neg, Int32.sub_eq_add_neg, Int32.add_assoc, Int32.add_assoc, Int32.add_comm (-nI (gf_lg b))]
    rw [nI_clamp (by omega), nI_clamp (by omega), f4 a (by omega) ha, f4 b (by omega) hb, e3, ma_irem_nI (by omega) (by omega) (by omega), nI_clamp (by omega), f3 _ (Nat.mod_lt _ (by decide))]
    refine ⟨ma_in_of gs_162 ha (by decide), ma_in_of gs_162 hb (by decide), nx_ne0 (by decide) (by decide), ma_in_of gs_161 (Nat.mod_lt _ (by decide)) (by decide), ?_⟩
    have e4 := gf_ex_add (gf_lg a) (255 - gf_lg b)
    rw [gf_ex_lg ha a0] at e4
    rw [gf_ex_mod, gf_inv, e4, show gf_lg a + (255 - gf_lg b) = gf_lg a + 255 - gf_lg b by omega]
  · exact absurd ((z b hb).mp e2) hb0
