/-! the reference's letter, forge, block -/
abbrev gJ (l : Launch) (g : ma_G) (x : Bool) (Q : ma_P) : ma_K := ma_J l g x none me_Mod_forge pr_Mod_forge Q
section
variable (l : Launch) (g : ma_G) (x : Bool) {h : ma_H}
theorem m_mletterN {W : Nat} (hW : W ≤ 64) (eW : h.1 184 2 = nI W) {t i : Int32} (hn : ¬ ((nI 0 ≤ t ∧ t < nI W) ∧ nI 0 ≤ i ∧ i ≤ nI 44)) : ma_PM l g x me_Mod_letter [.ref 184, .int t, .int i] GS h (fun v S' h' => v = some (.int (-1)) ∧ S' = GS ∧ h' = ma_uI h 184 0 (nI 0)) := by
  refine ma_PM_of (P := pr_Mod_letter) (by decide) rfl (Nat.le_of_ble_eq_true rfl) ?_
  show ma_J l g x none me_Mod_letter pr_Mod_letter _ 0 [some (.ref 184), some (.int t), some (.int i)] [] 0 0 GS h
  have no : ma_J l g x none me_Mod_letter pr_Mod_letter (fun v S' h' => v = some (.int (-1)) ∧ S' = GS ∧ h' = ma_uI h 184 0 (nI 0)) 25 [some (.ref 184), some (.int t), some (.int i)] [] 0 0 GS (ma_uI h 184 0 (nI 0)) := by
    refine ma_run0 po_Mod_letter rfl rfl [] 60 ?_
    simp only [pa_Mod_letter, ma_go, ev_A, ev_B, ev_C, ev_D, Nat.reduceAdd, List.mem_cons, List.not_mem_nil, or_false, or_true, true_or, false_or, or_self, Nat.reduceEqDiff, reduceCtorEq, ↓reduceIte, List.length_cons, List.length_nil, Nat.reduceLT, Nat.reduceLeDiff, Nat.le_refl, implies_true, true_and, and_true, Option.toList, List.cons_append, List.nil_append]
  have e2 : (ma_uI h 184 0 (nI 0)).1 184 2 = nI W := by rw [uI_ne (by omega)]; exact eW
  refine ma_run0 po_Mod_letter rfl rfl [16, 25] 60 ?_
  simp only [pa_Mod_letter, ma_go, ev_A, ev_B, ev_C, ev_D, Nat.reduceAdd, List.mem_cons, List.not_mem_nil, or_false, or_true, true_or, false_or, or_self, Nat.reduceEqDiff, reduceCtorEq, ↓reduceIte, List.length_cons, List.length_nil, Nat.reduceLT, Nat.reduceLeDiff, Nat.le_refl, implies_true, true_and, and_true, Option.toList, List.cons_append, List.nil_append, gs_184, e2]
  refine ma_callD mt_Mod_in rfl rfl (Nat.le_of_ble_eq_true rfl) (Nat.le_refl _) (Nat.le_refl _) (m_in l g x GS _ t (nI 0) (nI W - nI 1)) ?_
  simp only [pa_Mod_letter, ma_go, ev_A, ev_B, ev_C, ev_D, Nat.reduceAdd, List.mem_cons, List.not_mem_nil, or_false, or_true, true_or, false_or, or_self, Nat.reduceEqDiff, reduceCtorEq, ↓reduceIte, List.length_cons, List.length_nil, Nat.reduceLT, Nat.reduceLeDiff, Nat.le_refl, implies_true, true_and, and_true, Option.toList, List.cons_append, List.nil_append]
  by_cases q : nI 0 ≤ t ∧ t < nI W
  · rw [show decide (nI 0 ≤ t ∧ t ≤ nI W - nI 1) = true from decide_eq_true ((iM (by omega)).mpr q)]
    refine ⟨fun _ => no, fun _ => ?_⟩
    refine ma_callD mt_Mod_in rfl rfl (Nat.le_of_ble_eq_true rfl) (Nat.le_refl _) (Nat.le_refl _) (m_in l g x GS _ i (nI 0) (nI 44)) ?_
    simp only [pa_Mod_letter, ma_go, ev_A, ev_B, ev_C, ev_D, Nat.reduceAdd, List.mem_cons, List.not_mem_nil, or_false, or_true, true_or, false_or, or_self, Nat.reduceEqDiff, reduceCtorEq, ↓reduceIte, List.length_cons, List.length_nil, Nat.reduceLT, Nat.reduceLeDiff, Nat.le_refl, implies_true, true_and, and_true, Option.toList, List.cons_append, List.nil_append]
    rw [show decide (nI 0 ≤ i ∧ i ≤ nI 44) = false from decide_eq_false (fun z => hn ⟨q, z⟩)]
    exact ⟨fun _ => no, fun z => absurd rfl z⟩
  · rw [show decide (nI 0 ≤ t ∧ t ≤ nI W - nI 1) = false from decide_eq_false (fun z => q ((iM (by omega)).mp z))]
    exact ⟨fun _ => no, fun z => absurd rfl z⟩
theorem m_mletter (hp : pt_ok h) {W t i : Nat} {T : Nat → Nat} (hW : W ≤ 64) (eW : h.1 184 2 = nI W) (ht : t < W) (hi : i < 45) (hT : h.1 186 (45 * t + i) = nI (T i)) : ma_PM l g x me_Mod_letter [.ref 184, .int (nI t), .int (nI i)] GS h (fun v S' h' => v = some (.int (nI (T i))) ∧ S' = GS ∧ h' = ma_uI h 184 0 (nI 0)) := by
  refine ma_PM_of (P := pr_Mod_letter) (by decide) rfl (Nat.le_of_ble_eq_true rfl) ?_
  show ma_J l g x none me_Mod_letter pr_Mod_letter _ 0 [some (.ref 184), some (.int (nI t)), some (.int (nI i))] [] 0 0 GS h
  have o1 : on h (ma_uI h 184 0 (nI 0)) [184] := on_uI (on_rf h _) _ _ (by simp)
  have e2 : (ma_uI h 184 0 (nI 0)).1 184 2 = nI W := by rw [uI_ne (by omega)]; exact eW
  have e6 : (ma_uI h 184 0 (nI 0)).1 186 (45 * t + i) = nI (T i) := by rw [o1.2 186 (by decide)]; exact hT
  refine ma_run0 po_Mod_letter rfl rfl [16, 25] 60 ?_
  simp only [pa_Mod_letter, ma_go, ev_A, ev_B, ev_C, ev_D, Nat.reduceAdd, List.mem_cons, List.not_mem_nil, or_false, or_true, true_or, false_or, or_self, Nat.reduceEqDiff, reduceCtorEq, ↓reduceIte, List.length_cons, List.length_nil, Nat.reduceLT, Nat.reduceLeDiff, Nat.le_refl, implies_true, true_and, and_true, Option.toList, List.cons_append, List.nil_append, gs_184, e2]
  refine ma_callD mt_Mod_in rfl rfl (Nat.le_of_ble_eq_true rfl) (Nat.le_refl _) (Nat.le_refl _) (m_in l g x GS _ (nI t) (nI 0) (nI W - nI 1)) ?_
  simp only [pa_Mod_letter, ma_go, ev_A, ev_B, ev_C, ev_D, Nat.reduceAdd, List.mem_cons, List.not_mem_nil, or_false, or_true, true_or, false_or, or_self, Nat.reduceEqDiff, reduceCtorEq, ↓reduceIte, List.length_cons, List.length_nil, Nat.reduceLT, Nat.reduceLeDiff, Nat.le_refl, implies_true, true_and, and_true, Option.toList, List.cons_append, List.nil_append]
  rw [show decide (nI 0 ≤ nI t ∧ nI t ≤ nI W - nI 1) = true from decide_eq_true ((iM (by omega)).mpr ⟨nI_le (Nat.zero_le _) (by omega), nI_lt ht (by omega)⟩)]
  refine ⟨fun z => absurd z (by decide +kernel), fun _ => ?_⟩
  refine ma_callD mt_Mod_in rfl rfl (Nat.le_of_ble_eq_true rfl) (Nat.le_refl _) (Nat.le_refl _) (m_in l g x GS _ (nI i) (nI 0) (nI 44)) ?_
  simp only [pa_Mod_letter, ma_go, ev_A, ev_B, ev_C, ev_D, Nat.reduceAdd, List.mem_cons, List.not_mem_nil, or_false, or_true, true_or, false_or, or_self, Nat.reduceEqDiff, reduceCtorEq, ↓reduceIte, List.length_cons, List.length_nil, Nat.reduceLT, Nat.reduceLeDiff, Nat.le_refl, implies_true, true_and, and_true, Option.toList, List.cons_append, List.nil_append]
  rw [show decide (nI 0 ≤ nI i ∧ nI i ≤ nI 44) = true from decide_eq_true ⟨nI_le (Nat.zero_le _) (by omega), nI_le (by omega) (by omega)⟩]
  refine ⟨fun z => absurd z (by decide +kernel), fun _ => ?_⟩
  refine ma_run0 po_Mod_letter rfl rfl [] 60 ?_
  simp only [pa_Mod_letter, ma_go, ev_A, ev_B, ev_C, ev_D, Nat.reduceAdd, List.mem_cons, List.not_mem_nil, or_false, or_true, true_or, false_or, or_self, Nat.reduceEqDiff, reduceCtorEq, ↓reduceIte, List.length_cons, List.length_nil, Nat.reduceLT, Nat.reduceLeDiff, Nat.le_refl, implies_true, true_and, and_true, Option.toList, List.cons_append, List.nil_append, gs_184, pt_Mod (on_pt o1 hp)]
  simp only [pk_mul, nI_add]
  rw [nI_clamp (n := 45 * t + i) (by omega), e6]
  exact ⟨ma_in_of gs_186 (by omega) (by decide), rfl⟩
theorem m_mforgeN {R : Nat} (hR : R ≤ 90) (eR : h.1 184 4 = nI R) {u v : Int64} {n : Int32} (hn : ¬ (R < 90 ∧ nI 0 ≤ n ∧ n ≤ nI 60)) : ma_PM l g x me_Mod_forge [.ref 184, .long u, .long v, .int n] GS h (fun v S' h' => v = some (.int (nI 0)) ∧ S' = GS ∧ h' = ma_uI h 184 0 (nI 0)) := by
  refine ma_PM_of (P := pr_Mod_forge) (by decide) rfl (Nat.le_of_ble_eq_true rfl) ?_
  show ma_J l g x none me_Mod_forge pr_Mod_forge _ 0 [some (.ref 184), some (.long u), none, some (.long v), none, some (.int n), none] [] 0 0 GS h
  have no : gJ l g x (fun v S' h' => v = some (.int (nI 0)) ∧ S' = GS ∧ h' = ma_uI h 184 0 (nI 0)) 12 [some (.ref 184), some (.long u), none, some (.long v), none, some (.int n), none] [] 0 0 GS (ma_uI h 184 0 (nI 0)) := by
    refine ma_run0 po_Mod_forge rfl rfl [] 60 ?_
    simp only [pa_Mod_forge, ma_go, ev_A, ev_B, ev_C, ev_D, Nat.reduceAdd, List.mem_cons, List.not_mem_nil, or_false, or_true, true_or, false_or, or_self, Nat.reduceEqDiff, reduceCtorEq, ↓reduceIte, List.length_cons, List.length_nil, Nat.reduceLT, Nat.reduceLeDiff, Nat.le_refl, implies_true, true_and, and_true, Option.toList, List.cons_append, List.nil_append]
  have e4 : (ma_uI h 184 0 (nI 0)).1 184 4 = nI R := by rw [uI_ne (by omega)]; exact eR
  refine ma_run0 po_Mod_forge rfl rfl [12, 14] 60 ?_
  simp only [pa_Mod_forge, ma_go, ev_A, ev_B, ev_C, ev_D, Nat.reduceAdd, List.mem_cons, List.not_mem_nil, or_false, or_true, true_or, false_or, or_self, Nat.reduceEqDiff, reduceCtorEq, ↓reduceIte, List.length_cons, List.length_nil, Nat.reduceLT, Nat.reduceLeDiff, Nat.le_refl, implies_true, true_and, and_true, Option.toList, List.cons_append, List.nil_append, gs_184]
  refine ma_callD mt_Mod_in rfl rfl (Nat.le_of_ble_eq_true rfl) (Nat.le_refl _) (Nat.le_refl _) (m_in l g x GS _ n (nI 0) (nI 60)) ?_
  simp only [pa_Mod_forge, ma_go, ev_A, ev_B, ev_C, ev_D, Nat.reduceAdd, List.mem_cons, List.not_mem_nil, or_false, or_true, true_or, false_or, or_self, Nat.reduceEqDiff, reduceCtorEq, ↓reduceIte, List.length_cons, List.length_nil, Nat.reduceLT, Nat.reduceLeDiff, Nat.le_refl, implies_true, true_and, and_true, Option.toList, List.cons_append, List.nil_append, gs_184, e4]
  by_cases q : nI 0 ≤ n ∧ n ≤ nI 60
  · rw [show decide (nI 0 ≤ n ∧ n ≤ nI 60) = true from decide_eq_true q]
    exact ⟨fun _ => no, fun _ => ⟨fun z => absurd (by rw [show R = 90 from Nat.le_antisymm hR (Nat.le_of_not_lt (fun z => hn ⟨z, q⟩))]) z, fun _ => no⟩⟩
  · rw [show decide (nI 0 ≤ n ∧ n ≤ nI 60) = false from decide_eq_false q]
    exact ⟨fun _ => no, fun z => absurd rfl z⟩
theorem m_mforge (hp : pt_ok h) {R n lo hi : Nat} (hR : R < 90) (eR : h.1 184 4 = nI R) (hn : n ≤ 60) (hlo : lo < 2 ^ 64) (hhi : hi < 2 ^ 64) : ma_PM l g x me_Mod_forge [.ref 184, .long (lN lo), .long (lN hi), .int (nI n)] GS h (fun v S' h' => v = some (.int (nI 1)) ∧ S' = GS ∧ am h h' R n (rl lo hi)) := by
  refine ma_PM_of (P := pr_Mod_forge) (by decide) rfl (Nat.le_of_ble_eq_true rfl) ?_
  show ma_J l g x none me_Mod_forge pr_Mod_forge _ 0 [some (.ref 184), some (.long (lN lo)), none, some (.long (lN hi)), none, some (.int (nI n)), none] [] 0 0 GS h
  generalize hQ : (fun (v : Option Value) (S' : ma_S) (h' : ma_H) => v = some (.int (nI 1)) ∧ S' = GS ∧ am h h' R n (rl lo hi)) = Q
  have o1 : on h (ma_uI h 184 0 (nI 0)) [184] := on_uI (on_rf h _) _ _ (by simp)
  have e4 : (ma_uI h 184 0 (nI 0)).1 184 4 = nI R := by rw [uI_ne (by omega)]; exact eR
  have loop : ∀ m k H, k + m = n → on (ma_uI h 184 0 (nI 0)) H [187] → wt (h.1 187) (H.1 187) (60 * R) k (rl lo hi) → gJ l g x Q 16 [some (.ref 184), some (.long (lN lo)), none, some (.long (lN hi)), none, some (.int (nI n)), some (.int (nI k))] [] 0 0 GS H := by
    intro m
    induction m with
    | zero =>
      intro k H hk oH hw
      have e : k = n := by omega
      subst e
      have hpH := on_pt oH (on_pt o1 hp)
      have e4H : H.1 184 4 = nI R := by rw [oH.2 184 (by decide)]; exact e4
      refine ma_run0 po_Mod_forge rfl rfl [16, 19] 80 ?_
      simp only [pa_Mod_forge, ma_go, ev_A, ev_B, ev_C, ev_D, Nat.reduceAdd, List.mem_cons, List.not_mem_nil, or_false, or_true, true_or, false_or, or_self, Nat.reduceEqDiff, reduceCtorEq, ↓reduceIte, List.length_cons, List.length_nil, Nat.reduceLT, Nat.reduceLeDiff, Nat.le_refl, implies_true, true_and, and_true, Option.toList, List.cons_append, List.nil_append, gs_184, pt_Mod hpH, e4H]
      rw [nI_clamp (n := R) (by omega)]
      refine ⟨fun _ => ⟨ma_in_of gs_188 hR (by decide), ?_⟩, fun q => absurd (nI_le (Nat.le_refl _) (by omega)) q⟩
      have o2 : on H (ma_uI H 188 R (nI k)) [188] := on_uI (on_rf H _) _ _ (by simp)
      have e5 : (ma_uI H 188 R (nI k)).1 184 4 = nI R := by rw [o2.2 184 (by decide)]; exact e4H
      try rw [e5]
      rw [nx_1]
      have o3 : on (ma_uI H 188 R (nI k)) (ma_uI (ma_uI H 188 R (nI k)) 184 4 (nI (R + 1))) [184] := on_uI (on_rf _ _) _ _ (by simp)
      rw [← hQ]
      refine ⟨rfl, rfl, on_tr (on_mo o1 (by simp)) (on_tr (on_mo oH (by simp)) (on_tr (on_mo o2 (by simp)) (on_mo o3 (by simp)))), uI_same _ _ _ _, fun k k0 k4 => ?_, ?_, fun k hk => ?_, ?_⟩
      · rw [uI_ne (fun z => k4 z.2), o2.2 184 (by decide), oH.2 184 (by decide), uI_ne (fun z => k0 z.2)]
      · rw [o3.2 188 (by decide), uI_same]
      · rw [o3.2 188 (by decide), uI_ne (fun z => hk z.2), oH.2 188 (by decide), o1.2 188 (by decide)]
      · rw [o3.2 187 (by decide), o2.2 187 (by decide)]; exact hw
    | succ m ih =>
      intro k H hk oH hw
      have hpH := on_pt oH (on_pt o1 hp)
      have e4H : H.1 184 4 = nI R := by rw [oH.2 184 (by decide)]; exact e4
      have t7 := ma_in_of (i := 60 * R + k) gs_187 (by omega) (by decide)
      have go : ∀ v, v = nI (rl lo hi k) → gJ l g x Q 16 [some (.ref 184), some (.long (lN lo)), none, some (.long (lN hi)), none, some (.int (nI n)), some (.int (nI (k + 1)))] [] 0 0 GS (ma_uI H 187 (60 * R + k) (vp_nar .byte v.toInt8.toInt32)) := fun v hv => ih (k + 1) _ (by omega) (on_uI oH _ _ (by simp)) (wt_s (by rw [hv, nb4 _ (rl_lt _ _ _)]) hw)
      refine ma_run0 po_Mod_forge rfl rfl [16, 52] 80 ?_
      simp only [pa_Mod_forge, ma_go, ev_A, ev_B, ev_C, ev_D, Nat.reduceAdd, List.mem_cons, List.not_mem_nil, or_false, or_true, true_or, false_or, or_self, Nat.reduceEqDiff, reduceCtorEq, ↓reduceIte, List.length_cons, List.length_nil, Nat.reduceLT, Nat.reduceLeDiff, Nat.le_refl, implies_true, true_and, and_true, Option.toList, List.cons_append, List.nil_append, gs_184, pt_Mod hpH, e4H]
      simp only [pk_mul, nI_add]
      rw [nI_clamp (n := 60 * R + k) (by omega)]
      refine ⟨fun q => absurd q (nI_ge (by omega) (by omega)), fun _ => ⟨fun q => ⟨t7, go _ ?_⟩, fun q => ⟨t7, go _ ?_⟩⟩⟩
      · have := (nI_leI (by omega) (by omega)).mp q
        rw [nx_sub' (by omega), pk_mul, lu_at hhi (by omega), rl, if_neg (by omega)]
      · have : k < 32 := Nat.lt_of_not_le (fun z => q (nI_le z (by omega)))
        rw [lu_at hlo (by omega), rl, if_pos (by omega)]
  refine ma_run0 po_Mod_forge rfl rfl [12, 14] 60 ?_
  simp only [pa_Mod_forge, ma_go, ev_A, ev_B, ev_C, ev_D, Nat.reduceAdd, List.mem_cons, List.not_mem_nil, or_false, or_true, true_or, false_or, or_self, Nat.reduceEqDiff, reduceCtorEq, ↓reduceIte, List.length_cons, List.length_nil, Nat.reduceLT, Nat.reduceLeDiff, Nat.le_refl, implies_true, true_and, and_true, Option.toList, List.cons_append, List.nil_append, gs_184]
  refine ma_callD mt_Mod_in rfl rfl (Nat.le_of_ble_eq_true rfl) (Nat.le_refl _) (Nat.le_refl _) (m_in l g x GS _ (nI n) (nI 0) (nI 60)) ?_
  simp only [pa_Mod_forge, ma_go, ev_A, ev_B, ev_C, ev_D, Nat.reduceAdd, List.mem_cons, List.not_mem_nil, or_false, or_true, true_or, false_or, or_self, Nat.reduceEqDiff, reduceCtorEq, ↓reduceIte, List.length_cons, List.length_nil, Nat.reduceLT, Nat.reduceLeDiff, Nat.le_refl, implies_true, true_and, and_true, Option.toList, List.cons_append, List.nil_append, gs_184, e4]
  rw [show decide (nI 0 ≤ nI n ∧ nI n ≤ nI 60) = true from decide_eq_true ⟨nI_le (Nat.zero_le _) (by omega), nI_le (by omega) (by omega)⟩]
  refine ⟨fun z => absurd z (by decide +kernel), fun _ => ⟨fun _ => ?_, fun q => absurd ((nI_eq (by omega) (by omega)).mp q) (by omega)⟩⟩
  refine ma_run0 po_Mod_forge rfl rfl [16] 60 ?_
  simp only [pa_Mod_forge, ma_go, ev_A, ev_B, ev_C, ev_D, Nat.reduceAdd, List.mem_cons, List.not_mem_nil, or_false, or_true, true_or, false_or, or_self, Nat.reduceEqDiff, reduceCtorEq, ↓reduceIte, List.length_cons, List.length_nil, Nat.reduceLT, Nat.reduceLeDiff, Nat.le_refl, implies_true, true_and, and_true, Option.toList, List.cons_append, List.nil_append]
  refine loop n 0 _ (by omega) (on_rf _ _) ?_
  rw [o1.2 187 (by decide)]
  exact wt_0 _ _ _
theorem m_mblockN {n : Nat} (hn : n ≤ 160) (e : h.1 184 7 = nI n) {b w : Int32} (hb : ¬ ((nI 0 ≤ b ∧ b < nI (bl n)) ∧ nI 0 ≤ w ∧ w ≤ nI 1)) : ma_PM l g x me_Mod_block [.ref 184, .int b, .int w] GS h (fun v S' h' => v = some (.int (nI 0)) ∧ S' = GS ∧ h' = ma_uI h 184 0 (nI 1)) := by
  refine ma_PM_of (P := pr_Mod_block) (by decide) rfl (Nat.le_of_ble_eq_true rfl) ?_
  show ma_J l g x none me_Mod_block pr_Mod_block _ 0 [some (.ref 184), some (.int b), some (.int w)] [] 0 0 GS h
  have n40 : ¬ nI 40 = 0 := nx_ne0 (by decide) (by decide)
  have no : ma_J l g x none me_Mod_block pr_Mod_block (fun v S' h' => v = some (.int (nI 0)) ∧ S' = GS ∧ h' = ma_uI h 184 0 (nI 1)) 18 [some (.ref 184), some (.int b), some (.int w)] [.ref 184] 0 0 GS h := by
    refine ma_run0 po_Mod_block rfl rfl [26] 60 ?_
    simp only [pa_Mod_block, ma_go, ev_A, ev_B, ev_C, ev_D, Nat.reduceAdd, List.mem_cons, List.not_mem_nil, or_false, or_true, true_or, false_or, or_self, Nat.reduceEqDiff, reduceCtorEq, ↓reduceIte, List.length_cons, List.length_nil, Nat.reduceLT, Nat.reduceLeDiff, Nat.le_refl, implies_true, true_and, and_true, Option.toList, List.cons_append, List.nil_append, gs_184]
    rw [uI_same]
    exact fun q => absurd rfl q
  refine ma_run0 po_Mod_block rfl rfl [16, 18] 60 ?_
  simp only [pa_Mod_block, ma_go, ev_A, ev_B, ev_C, ev_D, Nat.reduceAdd, List.mem_cons, List.not_mem_nil, or_false, or_true, true_or, false_or, or_self, Nat.reduceEqDiff, reduceCtorEq, ↓reduceIte, List.length_cons, List.length_nil, Nat.reduceLT, Nat.reduceLeDiff, Nat.le_refl, implies_true, true_and, and_true, Option.toList, List.cons_append, List.nil_append, gs_184, e]
  rw [nI_add, pk_div (by omega) (by omega) (by omega)]
  refine ⟨fun _ => no, fun q => ⟨n40, fun _ => no, fun q2 => ?_⟩⟩
  refine ma_callD mt_Mod_in rfl rfl (Nat.le_of_ble_eq_true rfl) (Nat.le_refl _) (Nat.le_refl _) (m_in l g x GS _ w (nI 0) (nI 1)) ?_
  simp only [pa_Mod_block, ma_go, ev_A, ev_B, ev_C, ev_D, Nat.reduceAdd, List.mem_cons, List.not_mem_nil, or_false, or_true, true_or, false_or, or_self, Nat.reduceEqDiff, reduceCtorEq, ↓reduceIte, List.length_cons, List.length_nil, Nat.reduceLT, Nat.reduceLeDiff, Nat.le_refl, implies_true, true_and, and_true, Option.toList, List.cons_append, List.nil_append]
  rw [show decide (nI 0 ≤ w ∧ w ≤ nI 1) = false from decide_eq_false (fun z => hb ⟨?_, z⟩)]
  · exact ⟨fun _ => no, fun z => absurd rfl z⟩
  · rw [Int32.lt_iff_toInt_lt] at q
    rw [Int32.le_iff_toInt_le] at q2
    exact ⟨Int32.le_iff_toInt_le.mpr (by omega), Int32.lt_iff_toInt_lt.mpr (by show _ < (nI ((n + 39) / 40)).toInt; omega)⟩
theorem m_mblock (hp : pt_ok h) {n b w : Nat} (hn : n ≤ 160) (e : h.1 184 7 = nI n) (hb : b < bl n) (hw : w ≤ 1) : ma_PM l g x me_Mod_block [.ref 184, .int (nI b), .int (nI w)] GS h (fun v S' h' => v = some (.int (if w = 0 then h.1 190 b else h.1 191 b)) ∧ S' = GS ∧ h' = ma_uI h 184 0 (nI 0)) := by
  refine ma_PM_of (P := pr_Mod_block) (by decide) rfl (Nat.le_of_ble_eq_true rfl) ?_
  show ma_J l g x none me_Mod_block pr_Mod_block _ 0 [some (.ref 184), some (.int (nI b)), some (.int (nI w))] [] 0 0 GS h
  have n40 : ¬ nI 40 = 0 := nx_ne0 (by decide) (by decide)
  have b4 : bl n ≤ 4 := by unfold bl; omega
  have o1 : on h (ma_uI h 184 0 (nI 0)) [184] := on_uI (on_rf h _) _ _ (by simp)
  have n01 : ¬ nI 0 = nI 1 := by decide +kernel
  have yes : ma_J l g x none me_Mod_block pr_Mod_block (fun v S' h' => v = some (.int (if w = 0 then h.1 190 b else h.1 191 b)) ∧ S' = GS ∧ h' = ma_uI h 184 0 (nI 0)) 16 [some (.ref 184), some (.int (nI b)), some (.int (nI w))] [.ref 184] 0 0 GS h := by
    refine ma_run0 po_Mod_block rfl rfl [] 60 ?_
    simp only [pa_Mod_block, ma_go, ev_A, ev_B, ev_C, ev_D, Nat.reduceAdd, List.mem_cons, List.not_mem_nil, or_false, or_true, true_or, false_or, or_self, Nat.reduceEqDiff, reduceCtorEq, ↓reduceIte, List.length_cons, List.length_nil, Nat.reduceLT, Nat.reduceLeDiff, Nat.le_refl, implies_true, true_and, and_true, Option.toList, List.cons_append, List.nil_append, gs_184, pt_Mod (on_pt o1 hp)]
    rw [uI_same, nI_clamp (n := b) (by omega), o1.2 190 (by decide), o1.2 191 (by decide)]
    simp only [n01, not_false_eq_true, true_implies, false_implies, and_true, true_and]
    refine ⟨fun q => ⟨ma_in_of gs_191 (by omega) (by decide), ?_⟩, fun q => ⟨ma_in_of gs_190 (by omega) (by decide), ?_⟩⟩
    · rw [if_neg (fun z => q (by rw [z]))]
    · rw [if_pos ((nI_eq (by omega) (by omega)).mp q)]
  refine ma_run0 po_Mod_block rfl rfl [16, 18] 60 ?_
  simp only [pa_Mod_block, ma_go, ev_A, ev_B, ev_C, ev_D, Nat.reduceAdd, List.mem_cons, List.not_mem_nil, or_false, or_true, true_or, false_or, or_self, Nat.reduceEqDiff, reduceCtorEq, ↓reduceIte, List.length_cons, List.length_nil, Nat.reduceLT, Nat.reduceLeDiff, Nat.le_refl, implies_true, true_and, and_true, Option.toList, List.cons_append, List.nil_append, gs_184, e]
  rw [nI_add, pk_div (by omega) (by omega) (by omega)]
  refine ⟨fun q => absurd ((nI_ltI (by omega) (by omega)).mp q) (by omega), fun q => ⟨n40, fun q2 => absurd q2 (nI_ge hb (by omega)), fun q2 => ?_⟩⟩
  refine ma_callD mt_Mod_in rfl rfl (Nat.le_of_ble_eq_true rfl) (Nat.le_refl _) (Nat.le_refl _) (m_in l g x GS _ (nI w) (nI 0) (nI 1)) ?_
  simp only [pa_Mod_block, ma_go, ev_A, ev_B, ev_C, ev_D, Nat.reduceAdd, List.mem_cons, List.not_mem_nil, or_false, or_true, true_or, false_or, or_self, Nat.reduceEqDiff, reduceCtorEq, ↓reduceIte, List.length_cons, List.length_nil, Nat.reduceLT, Nat.reduceLeDiff, Nat.le_refl, implies_true, true_and, and_true, Option.toList, List.cons_append, List.nil_append]
  rw [show decide (nI 0 ≤ nI w ∧ nI w ≤ nI 1) = true from decide_eq_true ⟨nI_le (Nat.zero_le _) (by omega), nI_le hw (by omega)⟩]
  exact ⟨fun z => absurd z (by decide +kernel), fun _ => yes⟩
end
