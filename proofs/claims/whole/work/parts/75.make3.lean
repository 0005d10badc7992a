/-! the constructors of Column, Reader, Decoding, StrandArchive -/
theorem pt0_R {a : Nat} (h : a ≠ 69) (k : Nat) : pt0 a k = pt_R a k := if_neg h
theorem mk_to {A : Nat → Prop} {h h' : ma_H} (m : mk A h h') {a : Nat} (ha : ¬ A a) : h'.1 a = h.1 a ∧ h'.2.1 a = h.2.1 a ∧ h'.2.2 a = h.2.2 a := m a ha
set_option maxRecDepth 30000 in
theorem m_Col_init (l : Launch) (g : ma_G) {h : ma_H} (h0 : ∀ k, h.2.2 163 k = 0) : ma_PM l g true me_Col_init [.ref 163, .ref 160] (GS.take 162) h (fun v S' h' => v = none ∧ S' = GS.take 170 ∧ mk (fun a => 163 ≤ a ∧ a ≤ 171) h h' ∧ ∀ a, 163 ≤ a → a ≤ 171 → ∀ k, h'.2.2 a k = pt0 a k) := by
  refine ma_PM_of (P := pr_Col_init) (by decide) rfl (Nat.le_of_ble_eq_true rfl) ?_
  show ma_J l g true none me_Col_init pr_Col_init _ 0 [some (.ref 163), some (.ref 160)] [] 0 0 (GS.take 162) h
  have t164 : GS.take 162 ++ [.inr (.int, 16)] = GS.take 163 := tk_ap gs_164
  have t165 : GS.take 163 ++ [.inr (.boolean, 16)] = GS.take 164 := tk_ap gs_165
  have t166 : GS.take 164 ++ [.inr (.int, 6)] = GS.take 165 := tk_ap gs_166
  have t167 : GS.take 165 ++ [.inr (.int, 6)] = GS.take 166 := tk_ap gs_167
  have t168 : GS.take 166 ++ [.inr (.int, 7)] = GS.take 167 := tk_ap gs_168
  have t169 : GS.take 167 ++ [.inr (.int, 7)] = GS.take 168 := tk_ap gs_169
  have t170 : GS.take 168 ++ [.inr (.int, 7)] = GS.take 169 := tk_ap gs_170
  have t171 : GS.take 169 ++ [.inr (.int, 7)] = GS.take 170 := tk_ap gs_171
  have fin : ∀ H, H = (ma_uR (ma_uR (ma_z (ma_uR (ma_z (ma_uR (ma_z (ma_uR (ma_z (ma_uR (ma_z (ma_uR (ma_z (ma_uR (ma_z (ma_uR (ma_z h 164) 163 1 164) 165) 163 2 165) 166) 163 3 166) 167) 163 4 167) 168) 163 5 168) 169) 163 6 169) 170) 163 7 170) 171) 163 8 171) 163 0 160) → mk (fun a => 163 ≤ a ∧ a ≤ 171) h H ∧ ∀ a, 163 ≤ a → a ≤ 171 → ∀ k, H.2.2 a k = pt0 a k := by
    intro H e
    subst e
    refine ⟨mk_mo (mk_tr (mk_tr (mk_tr (mk_tr (mk_tr (mk_tr (mk_tr (mk_tr (mk_tr (mk_tr (mk_tr (mk_tr (mk_tr (mk_tr (mk_tr (mk_tr (mk_z _ _) (mk_uR _ _ _ _)) (mk_z _ _)) (mk_uR _ _ _ _)) (mk_z _ _)) (mk_uR _ _ _ _)) (mk_z _ _)) (mk_uR _ _ _ _)) (mk_z _ _)) (mk_uR _ _ _ _)) (mk_z _ _)) (mk_uR _ _ _ _)) (mk_z _ _)) (mk_uR _ _ _ _)) (mk_z _ _)) (mk_uR _ _ _ _)) (mk_uR _ _ _ _)) (fun a ha => by omega), fun a a1 a2 k => ?_⟩
    have : a = 163 ∨ a = 164 ∨ a = 165 ∨ a = 166 ∨ a = 167 ∨ a = 168 ∨ a = 169 ∨ a = 170 ∨ a = 171 := by omega
    rcases this with rfl | rfl | rfl | rfl | rfl | rfl | rfl | rfl | rfl
    · match k with
      | 0 => rfl
      | 1 => rfl
      | 2 => rfl
      | 3 => rfl
      | 4 => rfl
      | 5 => rfl
      | 6 => rfl
      | 7 => rfl
      | 8 => rfl
      | k + 9 => exact h0 _
    all_goals rfl
  refine ma_runX (mc := 8) (ms := 72) po_Col_init rfl rfl [] 80 ?_
  simp only [↓na_iff, ex_inl, tk_len, tk_sh, zI, zL, zR, uR_e, uI_s, uR_1, uR_2, pa_Col_init, ma_go, ev_A, ev_B, ev_C, ev_D, Nat.reduceAdd, List.mem_cons, List.not_mem_nil, or_false, or_true, true_or, false_or, or_self, Nat.reduceEqDiff, reduceCtorEq, ↓reduceIte, List.length_cons, List.length_nil, Nat.reduceLT, Nat.reduceLeDiff, Nat.le_refl, implies_true, true_and, and_true, Option.toList, List.cons_append, List.nil_append, gs_163, t164, t165, t166, t167, t168, t169, t170, t171]
  exact fin _ rfl
theorem m_Rdr_init (l : Launch) (g : ma_G) {h : ma_H} (h0 : ∀ k, h.2.2 176 k = 0) : ma_PM l g true me_Rdr_init [.ref 176] (GS.take 175) h (fun v S' h' => v = none ∧ S' = GS.take 177 ∧ mk (fun a => 176 ≤ a ∧ a ≤ 178) h h' ∧ (∀ a, 176 ≤ a → a ≤ 178 → ∀ k, h'.2.2 a k = pt0 a k) ∧ bd h' 177 (fun _ => 0)) := by
  refine ma_PM_of (P := pr_Rdr_init) (by decide) rfl (Nat.le_of_ble_eq_true rfl) ?_
  show ma_J l g true none me_Rdr_init pr_Rdr_init _ 0 [some (.ref 176)] [] 0 0 (GS.take 175) h
  generalize hQ : (fun (v : Option Value) (S' : ma_S) (h' : ma_H) => v = none ∧ S' = GS.take 177 ∧ mk (fun a => 176 ≤ a ∧ a ≤ 178) h h' ∧ (∀ a, 176 ≤ a → a ≤ 178 → ∀ k, h'.2.2 a k = pt0 a k) ∧ bd h' 177 (fun _ => 0)) = Q
  have t1 : GS.take 175 ++ [.inl 2] = GS.take 176 := tk_ap gs_177
  refine ma_runX (mc := 2) (ms := 36) po_Rdr_init rfl rfl [] 80 ?_
  simp only [↓na_iff, ex_inl, tk_len, tk_sh, zI, zL, zR, uR_e, uI_s, uR_1, uR_2, pa_Rdr_init, ma_go, ev_A, ev_B, ev_C, ev_D, Nat.reduceAdd, List.mem_cons, List.not_mem_nil, or_false, or_true, true_or, false_or, or_self, Nat.reduceEqDiff, reduceCtorEq, ↓reduceIte, List.length_cons, List.length_nil, Nat.reduceLT, Nat.reduceLeDiff, Nat.le_refl, implies_true, true_and, and_true, Option.toList, List.cons_append, List.nil_append, gs_176, gs_177, t1]
  refine ma_callX (mc' := 1) (ms' := 33) mt_Bod_init rfl rfl (Nat.le_of_ble_eq_true rfl) (by decide) (by decide) (m_Bod_init l g (p := 176) (by decide) (by decide) gs_177 gs_178 (fun k => by rw [zR, if_pos rfl])) ?_
  intro v S' H1 hpost
  obtain ⟨rfl, rfl, m1, p1, p2, b1⟩ := hpost
  simp only [↓na_iff, ex_inl, tk_len, tk_sh, zI, zL, zR, uR_e, uI_s, uR_1, uR_2, pa_Rdr_init, ma_go, ev_A, ev_B, ev_C, ev_D, Nat.reduceAdd, List.mem_cons, List.not_mem_nil, or_false, or_true, true_or, false_or, or_self, Nat.reduceEqDiff, reduceCtorEq, ↓reduceIte, List.length_cons, List.length_nil, Nat.reduceLT, Nat.reduceLeDiff, Nat.le_refl, implies_true, true_and, and_true, Option.toList, List.cons_append, List.nil_append, gs_176]
  have o : mk (fun a => a = 176) H1 (ma_uI (ma_uI (ma_uR H1 176 0 177) 176 1 (nI 0)) 176 2 (nI 0)) := mk_mo (mk_tr (mk_tr (mk_uR _ _ _ _) (mk_uI _ _ _ _)) (mk_uI _ _ _ _)) (fun a ha => by omega)
  rw [← hQ]
  refine ⟨rfl, rfl, mk_mo (mk_tr (mk_tr (mk_z h 177) m1) o) (fun a ha => by omega), fun a a1 a2 k => ?_, ?_⟩
  · have : a = 176 ∨ a = 177 ∨ a = 178 := by omega
    rcases this with rfl | rfl | rfl
    · match k with
      | 0 => rfl
      | k + 1 =>
        show H1.2.2 176 (k + 1) = _
        rw [(mk_to m1 (by omega)).2.2, zR, if_neg (by decide), h0]
        rfl
    · rw [(mk_to o (by omega)).2.2, p1 k]
      match k with
      | 0 => rfl
      | k + 1 => rfl
    · rw [(mk_to o (by omega)).2.2, p2 k]
      rfl
  · obtain ⟨b2, b3, b4⟩ := b1
    refine ⟨fun i hi => ?_, ?_, ?_⟩
    · rw [(mk_to o (by omega)).1]; exact b2 i hi
    · rw [(mk_to o (by omega)).1]; exact b3
    · rw [(mk_to o (by omega)).1]; exact b4
set_option maxRecDepth 30000 in
theorem m_Dec_init (l : Launch) (g : ma_G) {h : ma_H} (h0 : ∀ k, h.2.2 175 k = 0) : ma_PM l g true me_Dec_init [.ref 175, .ref 163] (GS.take 174) h (fun v S' h' => v = none ∧ S' = GS.take 182 ∧ mk (fun a => 175 ≤ a ∧ a ≤ 183) h h' ∧ (∀ a, 175 ≤ a → a ≤ 183 → ∀ k, h'.2.2 a k = pt0 a k) ∧ bd h' 177 (fun _ => 0) ∧ h'.1 175 5 = nI 0 ∧ h'.1 175 6 = nI 0 ∧ h'.1 175 7 = nI 0) := by
  refine ma_PM_of (P := pr_Dec_init) (by decide) rfl (Nat.le_of_ble_eq_true rfl) ?_
  show ma_J l g true none me_Dec_init pr_Dec_init _ 0 [some (.ref 175), some (.ref 163)] [] 0 0 (GS.take 174) h
  generalize hQ : (fun (v : Option Value) (S' : ma_S) (h' : ma_H) => v = none ∧ S' = GS.take 182 ∧ mk (fun a => 175 ≤ a ∧ a ≤ 183) h h' ∧ (∀ a, 175 ≤ a → a ≤ 183 → ∀ k, h'.2.2 a k = pt0 a k) ∧ bd h' 177 (fun _ => 0) ∧ h'.1 175 5 = nI 0 ∧ h'.1 175 6 = nI 0 ∧ h'.1 175 7 = nI 0) = Q
  have t176 : GS.take 174 ++ [.inl 3] = GS.take 175 := tk_ap gs_176
  have t179 : GS.take 177 ++ [.inr (.int, 64)] = GS.take 178 := tk_ap gs_179
  have t180 : GS.take 178 ++ [.inr (.int, 256)] = GS.take 179 := tk_ap gs_180
  have t181 : GS.take 179 ++ [.inr (.int, 160)] = GS.take 180 := tk_ap gs_181
  have t182 : GS.take 180 ++ [.inr (.int, 4)] = GS.take 181 := tk_ap gs_182
  have t183 : GS.take 181 ++ [.inr (.int, 4)] = GS.take 182 := tk_ap gs_183
  refine ma_runX (mc := 8) (ms := 527) po_Dec_init rfl rfl [] 80 ?_
  simp only [↓na_iff, ex_inl, tk_len, tk_sh, zI, zL, zR, uR_e, uI_s, uR_1, uR_2, pa_Dec_init, ma_go, ev_A, ev_B, ev_C, ev_D, Nat.reduceAdd, List.mem_cons, List.not_mem_nil, or_false, or_true, true_or, false_or, or_self, Nat.reduceEqDiff, reduceCtorEq, ↓reduceIte, List.length_cons, List.length_nil, Nat.reduceLT, Nat.reduceLeDiff, Nat.le_refl, implies_true, true_and, and_true, Option.toList, List.cons_append, List.nil_append, gs_175, gs_176, t176]
  refine ma_callX (mc' := 2) (ms' := 36) mt_Rdr_init rfl rfl (Nat.le_of_ble_eq_true rfl) (by decide) (by decide) (m_Rdr_init l g (fun k => by rw [zR, if_pos rfl])) ?_
  intro v S' H1 hpost
  obtain ⟨rfl, rfl, m1, p1, b1⟩ := hpost
  have q1 : ∀ k, H1.2.2 175 k = 0 := fun k => by rw [(mk_to m1 (by omega)).2.2, zR, if_neg (by decide), h0]
  have fin : ∀ H, H = (ma_uR (ma_uR (ma_z (ma_uR (ma_z (ma_uR (ma_z (ma_uI (ma_uI (ma_uI (ma_uI (ma_uR (ma_z (ma_uR (ma_z (ma_uR H1 175 1 176) 179) 175 2 179) 180) 175 3 180) 175 4 (nI 0)) 175 5 (nI 0)) 175 6 (nI 0)) 175 7 (nI 0)) 181) 175 8 181) 182) 175 9 182) 183) 175 10 183) 175 0 163) → mk (fun a => a = 175 ∨ (179 ≤ a ∧ a ≤ 183)) H1 H ∧ (∀ a, a = 175 ∨ (179 ≤ a ∧ a ≤ 183) → ∀ k, H.2.2 a k = pt0 a k) ∧ H.1 175 5 = nI 0 ∧ H.1 175 6 = nI 0 ∧ H.1 175 7 = nI 0 := by
    intro H e
    subst e
    refine ⟨mk_mo (mk_tr (mk_tr (mk_tr (mk_tr (mk_tr (mk_tr (mk_tr (mk_tr (mk_tr (mk_tr (mk_tr (mk_tr (mk_tr (mk_tr (mk_tr (mk_uR _ _ _ _) (mk_z _ _)) (mk_uR _ _ _ _)) (mk_z _ _)) (mk_uR _ _ _ _)) (mk_uI _ _ _ _)) (mk_uI _ _ _ _)) (mk_uI _ _ _ _)) (mk_uI _ _ _ _)) (mk_z _ _)) (mk_uR _ _ _ _)) (mk_z _ _)) (mk_uR _ _ _ _)) (mk_z _ _)) (mk_uR _ _ _ _)) (mk_uR _ _ _ _)) (fun a ha => by omega), fun a a1 k => ?_, rfl, rfl, rfl⟩
    have : a = 175 ∨ a = 179 ∨ a = 180 ∨ a = 181 ∨ a = 182 ∨ a = 183 := by omega
    rcases this with rfl | rfl | rfl | rfl | rfl | rfl
    · match k with
      | 0 => rfl
      | 1 => rfl
      | 2 => rfl
      | 3 => rfl
      | 4 => exact q1 4
      | 5 => exact q1 5
      | 6 => exact q1 6
      | 7 => exact q1 7
      | 8 => rfl
      | 9 => rfl
      | 10 => rfl
      | k + 11 => exact q1 _
    all_goals rfl
  simp only [↓na_iff, ex_inl, tk_len, tk_sh, zI, zL, zR, uR_e, uI_s, uR_1, uR_2, pa_Dec_init, ma_go, ev_A, ev_B, ev_C, ev_D, Nat.reduceAdd, List.mem_cons, List.not_mem_nil, or_false, or_true, true_or, false_or, or_self, Nat.reduceEqDiff, reduceCtorEq, ↓reduceIte, List.length_cons, List.length_nil, Nat.reduceLT, Nat.reduceLeDiff, Nat.le_refl, implies_true, true_and, and_true, Option.toList, List.cons_append, List.nil_append, gs_175, t179, t180, t181, t182, t183]
  obtain ⟨f1, f2, f3, f4, f5⟩ := fin _ rfl
  rw [← hQ]
  refine ⟨rfl, rfl, mk_mo (mk_tr (mk_tr (mk_z h 176) m1) f1) (fun a ha => by omega), fun a a1 a2 k => ?_, ?_, f3, f4, f5⟩
  · by_cases e : 176 ≤ a ∧ a ≤ 178
    · rw [(mk_to f1 (by omega)).2.2]; exact p1 a e.1 e.2 k
    · exact f2 a (by omega) k
  · obtain ⟨b2, b3, b4⟩ := b1
    refine ⟨fun i hi => ?_, ?_, ?_⟩
    · rw [(mk_to f1 (by omega)).1]; exact b2 i hi
    · rw [(mk_to f1 (by omega)).1]; exact b3
    · rw [(mk_to f1 (by omega)).1]; exact b4
