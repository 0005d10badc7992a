/-! Field: times, over, powerOfTwo -/
def fd_ok (h : ma_H) : Prop := h.2.2 160 0 = 161 ∧ h.2.2 160 1 = 162 ∧ (∀ i, i < 255 → h.1 161 i = nI (gf_ex i)) ∧ (∀ a, 1 ≤ a → a < 256 → h.1 162 a = nI (gf_lg a))
theorem gf_lg_lt {a : Nat} (h : a < 256) : gf_lg a < 255 := by
  rcases gf_t2 a h with h1 | h1
  · subst h1; decide
  · exact h1.1
theorem ma_irem_nI {a d : Nat} (ha : a < 2 ^ 31) (h0 : 0 < d) (hd : d < 2 ^ 31) : ma_irem (nI a) (nI d) = nI (a % d) := pk_rem ha h0 hd
theorem m_times (l : Launch) (g : ma_G) (x : Bool) {h : ma_H} (hf : fd_ok h) {a b : Nat} (ha : a < 256) (hb : b < 256) : ma_PM l g x me_Fld_times [.ref 160, .int (nI a), .int (nI b)] GS h (fun v S' h' => v = some (.int (nI (gf_m a b))) ∧ S' = GS ∧ h' = h) := by
  obtain ⟨f1, f2, f3, f4⟩ := hf
  refine ma_PM_of (P := pr_Fld_times) (by decide) rfl (Nat.le_of_ble_eq_true rfl) ?_
  show ma_J l g x none me_Fld_times pr_Fld_times _ 0 [some (.ref 160), some (.int (nI a)), some (.int (nI b))] [] 0 0 GS h
  refine ma_run0 po_Fld_times rfl rfl [] 60 ?_
  simp only [ma_go, pa_Fld_times, ev_A, ev_B, ev_C, ev_D, Nat.reduceAdd, List.not_mem_nil, ↓reduceIte, f1, f2, gs_all, true_and, and_true]
  done
