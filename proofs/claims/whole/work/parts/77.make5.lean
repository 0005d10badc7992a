/-! the constructor of the reference -/
theorem m_power (l : Launch) (g : ma_G) (x : Bool) {S : ma_S} {h : ma_H} {n : Nat} (hn : n < 1000) : ma_PM l g x me_Mod_power [.int (nI n)] S h (fun v S' h' => v = some (.int (nI (gf_ex n))) ∧ S' = S ∧ h' = h) := by
  refine ma_PM_of (P := pr_Mod_power) (by decide) rfl (Nat.le_of_ble_eq_true rfl) ?_
  show ma_J l g x none me_Mod_power pr_Mod_power _ 0 [some (.int (nI n)), none, none] [] 0 0 S h
  have loop : ∀ m k, k + m = n → ma_J l g x none me_Mod_power pr_Mod_power (fun v S' h' => v = some (.int (nI (gf_ex n))) ∧ S' = S ∧ h' = h) 4 [some (.int (nI n)), some (.int (nI (gf_ex k))), some (.int (nI k))] [] 0 0 S h := by
    intro m
    induction m with
    | zero =>
      intro k hk
      have e : k = n := by omega
      subst e
      refine ma_run0 po_Mod_power rfl rfl [4, 7] 60 ?_
      simp only [pa_Mod_power, ma_go, ev_A, ev_B, ev_C, ev_D, Nat.reduceAdd, List.mem_cons, List.not_mem_nil, or_false, or_true, true_or, false_or, or_self, Nat.reduceEqDiff, reduceCtorEq, ↓reduceIte, List.length_cons, List.length_nil, Nat.reduceLT, Nat.reduceLeDiff, Nat.le_refl, implies_true, true_and, and_true, Option.toList, List.cons_append, List.nil_append]
      exact fun q => absurd (nI_le (Nat.le_refl _) (by omega)) q
    | succ m ih =>
      intro k hk
      have i2 := ih (k + 1) (by omega)
      rw [show gf_ex (k + 1) = gf_m (gf_ex k) 2 by rw [show (2 : Nat) = gf_ex 1 from rfl, gf_ex_add]] at i2
      refine ma_run0 po_Mod_power rfl rfl [4, 13] 60 ?_
      simp only [pa_Mod_power, ma_go, ev_A, ev_B, ev_C, ev_D, Nat.reduceAdd, List.mem_cons, List.not_mem_nil, or_false, or_true, true_or, false_or, or_self, Nat.reduceEqDiff, reduceCtorEq, ↓reduceIte, List.length_cons, List.length_nil, Nat.reduceLT, Nat.reduceLeDiff, Nat.le_refl, implies_true, true_and, and_true, Option.toList, List.cons_append, List.nil_append]
      refine ⟨fun q => absurd q (nI_ge (by omega) (by omega)), fun _ => ?_⟩
      refine ma_callD mt_Mod_times rfl rfl (Nat.le_of_ble_eq_true rfl) (Nat.le_refl _) (Nat.le_refl _) (m_mtimes l g x S h (gf_ex_pos k).2 (show 2 < 256 by decide)) ?_
      simp only [pa_Mod_power, ma_go, ev_A, ev_B, ev_C, ev_D, Nat.reduceAdd, List.mem_cons, List.not_mem_nil, or_false, or_true, true_or, false_or, or_self, Nat.reduceEqDiff, reduceCtorEq, ↓reduceIte, List.length_cons, List.length_nil, Nat.reduceLT, Nat.reduceLeDiff, Nat.le_refl, implies_true, true_and, and_true, Option.toList, List.cons_append, List.nil_append]
      rw [nx_1]
      exact i2
  refine ma_run0 po_Mod_power rfl rfl [4] 60 ?_
  simp only [pa_Mod_power, ma_go, ev_A, ev_B, ev_C, ev_D, Nat.reduceAdd, List.mem_cons, List.not_mem_nil, or_false, or_true, true_or, false_or, or_self, Nat.reduceEqDiff, reduceCtorEq, ↓reduceIte, List.length_cons, List.length_nil, Nat.reduceLT, Nat.reduceLeDiff, Nat.le_refl, implies_true, true_and, and_true, Option.toList, List.cons_append, List.nil_append]
  exact loop n 0 (by omega)
theorem gf_inv_one {a v : Nat} (ha : a < 256) (h0 : a ≠ 0) (hv : v < 256) (h : gf_m a v = 1) : v = gf_inv a := by
  have h1 := gf_m_inv ha h0
  have e1 : gf_m (gf_inv a) (gf_m a v) = gf_m (gf_m (gf_inv a) a) v := (gf_m_assoc (gf_inv_lt a) ha hv).symm
  rw [h, gf_m_one (gf_inv_lt a), gf_m_comm (gf_inv a) a, h1, gf_m_comm 1 v, gf_m_one hv] at e1
  exact e1.symm
theorem m_inverse (l : Launch) (g : ma_G) (x : Bool) {S : ma_S} {h : ma_H} {a : Nat} (ha : a < 256) (h0 : a ≠ 0) : ma_PM l g x me_Mod_inverse [.int (nI a)] S h (fun v S' h' => v = some (.int (nI (gf_inv a))) ∧ S' = S ∧ h' = h) := by
  refine ma_PM_of (P := pr_Mod_inverse) (by decide) rfl (Nat.le_of_ble_eq_true rfl) ?_
  show ma_J l g x none me_Mod_inverse pr_Mod_inverse _ 0 [some (.int (nI a)), none] [] 0 0 S h
  have il := gf_inv_lt a
  have ip : 1 ≤ gf_inv a := (gf_ex_pos _).1
  have loop : ∀ m v, v + m = gf_inv a → ma_J l g x none me_Mod_inverse pr_Mod_inverse (fun v S' h' => v = some (.int (nI (gf_inv a))) ∧ S' = S ∧ h' = h) 2 [some (.int (nI a)), some (.int (nI v))] [] 0 0 S h := by
    intro m
    induction m with
    | zero =>
      intro v hv
      have e : v = gf_inv a := by omega
      subst e
      refine ma_run0 po_Mod_inverse rfl rfl [2, 7] 60 ?_
      simp only [pa_Mod_inverse, ma_go, ev_A, ev_B, ev_C, ev_D, Nat.reduceAdd, List.mem_cons, List.not_mem_nil, or_false, or_true, true_or, false_or, or_self, Nat.reduceEqDiff, reduceCtorEq, ↓reduceIte, List.length_cons, List.length_nil, Nat.reduceLT, Nat.reduceLeDiff, Nat.le_refl, implies_true, true_and, and_true, Option.toList, List.cons_append, List.nil_append]
      refine ma_callD mt_Mod_times rfl rfl (Nat.le_of_ble_eq_true rfl) (Nat.le_refl _) (Nat.le_refl _) (m_mtimes l g x S h ha il) ?_
      simp only [pa_Mod_inverse, ma_go, ev_A, ev_B, ev_C, ev_D, Nat.reduceAdd, List.mem_cons, List.not_mem_nil, or_false, or_true, true_or, false_or, or_self, Nat.reduceEqDiff, reduceCtorEq, ↓reduceIte, List.length_cons, List.length_nil, Nat.reduceLT, Nat.reduceLeDiff, Nat.le_refl, implies_true, true_and, and_true, Option.toList, List.cons_append, List.nil_append]
      rw [gf_m_inv ha h0]
      exact fun q => absurd rfl q
    | succ m ih =>
      intro v hv
      have i2 := ih (v + 1) (by omega)
      have gl := gf_m_lt a v
      refine ma_run0 po_Mod_inverse rfl rfl [2, 9] 60 ?_
      simp only [pa_Mod_inverse, ma_go, ev_A, ev_B, ev_C, ev_D, Nat.reduceAdd, List.mem_cons, List.not_mem_nil, or_false, or_true, true_or, false_or, or_self, Nat.reduceEqDiff, reduceCtorEq, ↓reduceIte, List.length_cons, List.length_nil, Nat.reduceLT, Nat.reduceLeDiff, Nat.le_refl, implies_true, true_and, and_true, Option.toList, List.cons_append, List.nil_append]
      refine ma_callD mt_Mod_times rfl rfl (Nat.le_of_ble_eq_true rfl) (Nat.le_refl _) (Nat.le_refl _) (m_mtimes l g x S h ha (show v < 256 by omega)) ?_
      simp only [pa_Mod_inverse, ma_go, ev_A, ev_B, ev_C, ev_D, Nat.reduceAdd, List.mem_cons, List.not_mem_nil, or_false, or_true, true_or, false_or, or_self, Nat.reduceEqDiff, reduceCtorEq, ↓reduceIte, List.length_cons, List.length_nil, Nat.reduceLT, Nat.reduceLeDiff, Nat.le_refl, implies_true, true_and, and_true, Option.toList, List.cons_append, List.nil_append]
      rw [nx_1]
      refine ⟨fun q => ?_, fun _ => i2⟩
      have := gf_inv_one ha h0 (by omega) ((nI_eq (by omega) (by omega)).mp q)
      omega
  refine ma_run0 po_Mod_inverse rfl rfl [2] 60 ?_
  simp only [pa_Mod_inverse, ma_go, ev_A, ev_B, ev_C, ev_D, Nat.reduceAdd, List.mem_cons, List.not_mem_nil, or_false, or_true, true_or, false_or, or_self, Nat.reduceEqDiff, reduceCtorEq, ↓reduceIte, List.length_cons, List.length_nil, Nat.reduceLT, Nat.reduceLeDiff, Nat.le_refl, implies_true, true_and, and_true, Option.toList, List.cons_append, List.nil_append]
  exact loop (gf_inv a - 1) 1 (by omega)
abbrev xJ (l : Launch) (g : ma_G) (Q : ma_P) : ma_K := ma_J l g true none me_Mod_init pr_Mod_init Q
set_option maxRecDepth 30000 in
theorem m_Mod_init (l : Launch) (g : ma_G) {h : ma_H} (h0 : ∀ k, h.2.2 184 k = 0) : ma_PM l g true me_Mod_init [.ref 184] (GS.take 183) h (fun v S' h' => v = none ∧ S' = GS.take 199 ∧ mk (fun a => 184 ≤ a ∧ a ≤ 200) h h' ∧ (∀ a, 184 ≤ a → a ≤ 200 → ∀ k, h'.2.2 a k = pt0 a k) ∧ mt_ok h' ∧ h'.1 184 = h.1 184 ∧ ar h' 185 160 (fun _ => 0)) := by
  refine ma_PM_of (P := pr_Mod_init) (by decide) rfl (Nat.le_of_ble_eq_true rfl) ?_
  show ma_J l g true none me_Mod_init pr_Mod_init _ 0 [some (.ref 184), none] [] 0 0 (GS.take 183) h
  generalize hQ : (fun (v : Option Value) (S' : ma_S) (h' : ma_H) => v = none ∧ S' = GS.take 199 ∧ mk (fun a => 184 ≤ a ∧ a ≤ 200) h h' ∧ (∀ a, 184 ≤ a → a ≤ 200 → ∀ k, h'.2.2 a k = pt0 a k) ∧ mt_ok h' ∧ h'.1 184 = h.1 184 ∧ ar h' 185 160 (fun _ => 0)) = Q
  have t185 : GS.take 183 ++ [.inr (.int, 160)] = GS.take 184 := tk_ap gs_185
  have t186 : GS.take 184 ++ [.inr (.byte, 2880)] = GS.take 185 := tk_ap gs_186
  have t187 : GS.take 185 ++ [.inr (.byte, 5400)] = GS.take 186 := tk_ap gs_187
  have t188 : GS.take 186 ++ [.inr (.int, 90)] = GS.take 187 := tk_ap gs_188
  have t189 : GS.take 187 ++ [.inr (.int, 160)] = GS.take 188 := tk_ap gs_189
  have t190 : GS.take 188 ++ [.inr (.int, 4)] = GS.take 189 := tk_ap gs_190
  have t191 : GS.take 189 ++ [.inr (.int, 4)] = GS.take 190 := tk_ap gs_191
  have t192 : GS.take 190 ++ [.inr (.int, 33)] = GS.take 191 := tk_ap gs_192
  have t193 : GS.take 191 ++ [.inr (.int, 60)] = GS.take 192 := tk_ap gs_193
  have t194 : GS.take 192 ++ [.inr (.int, 64)] = GS.take 193 := tk_ap gs_194
  have t195 : GS.take 193 ++ [.inr (.int, 256)] = GS.take 194 := tk_ap gs_195
  have t196 : GS.take 194 ++ [.inr (.int, 16)] = GS.take 195 := tk_ap gs_196
  have t197 : GS.take 195 ++ [.inr (.int, 42)] = GS.take 196 := tk_ap gs_197
  have t198 : GS.take 196 ++ [.inr (.int, 6)] = GS.take 197 := tk_ap gs_198
  have t199 : GS.take 197 ++ [.inr (.int, 96)] = GS.take 198 := tk_ap gs_199
  have t200 : GS.take 198 ++ [.inr (.int, 256)] = GS.take 199 := tk_ap gs_200
  have s199 : ma_sh (GS.take 199) 199 = some (.inr (.int, 96)) := by rw [tk_sh (by decide)]; exact gs_199
  have s200 : ma_sh (GS.take 199) 200 = some (.inr (.int, 256)) := by rw [tk_sh (by decide)]; exact gs_200
  have main : ∀ H0 : ma_H, H0 = (ma_uR (ma_z (ma_uR (ma_z (ma_uR (ma_z (ma_uR (ma_z (ma_uR (ma_z (ma_uR (ma_z (ma_uR (ma_z (ma_uR (ma_z (ma_uR (ma_z (ma_uR (ma_z (ma_uR (ma_z (ma_uR (ma_z (ma_uR (ma_z (ma_uR (ma_z (ma_uR (ma_z (ma_uR (ma_z h 185) 184 1 185) 186) 184 3 186) 187) 184 5 187) 188) 184 6 188) 189) 184 10 189) 190) 184 11 190) 191) 184 12 191) 192) 184 13 192) 193) 184 14 193) 194) 184 15 194) 195) 184 16 195) 196) 184 17 196) 197) 184 18 197) 198) 184 19 198) 199) 184 20 199) 200) 184 21 200) → xJ l g Q 68 [some (.ref 184), some (.int (nI 0))] [] 16 9527 (GS.take 199) H0 := by
    intro H0 e0
    have m0 : mk (fun a => 184 ≤ a ∧ a ≤ 200) h H0 := by
      rw [e0]
      exact mk_mo (mk_tr (mk_tr (mk_tr (mk_tr (mk_tr (mk_tr (mk_tr (mk_tr (mk_tr (mk_tr (mk_tr (mk_tr (mk_tr (mk_tr (mk_tr (mk_tr (mk_tr (mk_tr (mk_tr (mk_tr (mk_tr (mk_tr (mk_tr (mk_tr (mk_tr (mk_tr (mk_tr (mk_tr (mk_tr (mk_tr (mk_tr (mk_z _ _) (mk_uR _ _ _ _)) (mk_z _ _)) (mk_uR _ _ _ _)) (mk_z _ _)) (mk_uR _ _ _ _)) (mk_z _ _)) (mk_uR _ _ _ _)) (mk_z _ _)) (mk_uR _ _ _ _)) (mk_z _ _)) (mk_uR _ _ _ _)) (mk_z _ _)) (mk_uR _ _ _ _)) (mk_z _ _)) (mk_uR _ _ _ _)) (mk_z _ _)) (mk_uR _ _ _ _)) (mk_z _ _)) (mk_uR _ _ _ _)) (mk_z _ _)) (mk_uR _ _ _ _)) (mk_z _ _)) (mk_uR _ _ _ _)) (mk_z _ _)) (mk_uR _ _ _ _)) (mk_z _ _)) (mk_uR _ _ _ _)) (mk_z _ _)) (mk_uR _ _ _ _)) (mk_z _ _)) (mk_uR _ _ _ _)) (fun a ha => by omega)
    have p0 : ∀ a, 184 ≤ a → a ≤ 200 → ∀ k, H0.2.2 a k = pt0 a k := by
      intro a a1 a2 k
      rw [e0]
      have : a = 184 ∨ a = 185 ∨ a = 186 ∨ a = 187 ∨ a = 188 ∨ a = 189 ∨ a = 190 ∨ a = 191 ∨ a = 192 ∨ a = 193 ∨ a = 194 ∨ a = 195 ∨ a = 196 ∨ a = 197 ∨ a = 198 ∨ a = 199 ∨ a = 200 := by omega
      rcases this with rfl | rfl | rfl | rfl | rfl | rfl | rfl | rfl | rfl | rfl | rfl | rfl | rfl | rfl | rfl | rfl | rfl
      · match k with
        | 0 => exact h0 0
        | 1 => rfl
        | 2 => exact h0 2
        | 3 => rfl
        | 4 => exact h0 4
        | 5 => rfl
        | 6 => rfl
        | 7 => exact h0 7
        | 8 => exact h0 8
        | 9 => exact h0 9
        | 10 => rfl
        | 11 => rfl
        | 12 => rfl
        | 13 => rfl
        | 14 => rfl
        | 15 => rfl
        | 16 => rfl
        | 17 => rfl
        | 18 => rfl
        | 19 => rfl
        | 20 => rfl
        | 21 => rfl
        | k + 22 => exact h0 _
      all_goals rfl
    have q20 : H0.2.2 184 20 = 199 := p0 184 (by decide) (by decide) 20
    have q21 : H0.2.2 184 21 = 200 := p0 184 (by decide) (by decide) 21
    have i184 : H0.1 184 = h.1 184 := by rw [e0]; rfl
    have i185 : ∀ i, H0.1 185 i = 0 := fun i => by rw [e0]; rfl
    have fin : ∀ H, on H0 H [199, 200] → (∀ i, i < 96 → H.1 199 i = nI (gf_ex i)) → (∀ a, 1 ≤ a → a < 256 → H.1 200 a = nI (gf_inv a)) → Q none (GS.take 199) H := by
      intro H oH h1 h2
      rw [← hQ]
      refine ⟨rfl, rfl, fun a ha => ?_, fun a a1 a2 k => by rw [oH.1]; exact p0 a a1 a2 k, ⟨h1, h2⟩, by rw [oH.2 184 (by decide)]; exact i184, fun i hi => by rw [oH.2 185 (by decide), i185]; rfl⟩
      obtain ⟨x1, x2, x3⟩ := m0 a ha
      refine ⟨?_, ?_, ?_⟩
      · rw [oH.2 a (by simp; omega)]; exact x1
      · rw [oH.1]; exact x2
      · rw [oH.1]; exact x3
    have loop2 : ∀ m a H, a + m = 256 → 1 ≤ a → on H0 H [199, 200] → (∀ i, i < 96 → H.1 199 i = nI (gf_ex i)) → (∀ b, 1 ≤ b → b < a → H.1 200 b = nI (gf_inv b)) → xJ l g Q 81 [some (.ref 184), some (.int (nI a))] [] 16 9527 (GS.take 199) H := by
      intro m
      induction m with
      | zero =>
        intro a H ha _ oH h1 h2
        have e : a = 256 := by omega
        subst e
        have t := fin H oH h1 h2
        refine ma_runX (mc := 16) (ms := 9527) po_Mod_init rfl rfl [81, 84] 60 ?_
        simp only [↓na_iff, ex_inl, tk_len, tk_sh, zI, zL, zR, uR_e, uI_s, uR_1, uR_2, pa_Mod_init, ma_go, ev_A, ev_B, ev_C, ev_D, Nat.reduceAdd, List.mem_cons, List.not_mem_nil, or_false, or_true, true_or, false_or, or_self, Nat.reduceEqDiff, reduceCtorEq, ↓reduceIte, List.length_cons, List.length_nil, Nat.reduceLT, Nat.reduceLeDiff, Nat.le_refl, implies_true, true_and, and_true, Option.toList, List.cons_append, List.nil_append]
        exact ⟨fun _ => t, fun q => absurd (nI_le (Nat.le_refl _) (by omega)) q⟩
      | succ m ih =>
        intro a H ha a1 oH h1 h2
        have g21 : H.2.2 184 21 = 200 := by rw [oH.1]; exact q21
        refine ma_runX (mc := 16) (ms := 9527) po_Mod_init rfl rfl [81, 92] 60 ?_
        simp only [↓na_iff, ex_inl, tk_len, tk_sh, zI, zL, zR, uR_e, uI_s, uR_1, uR_2, pa_Mod_init, ma_go, ev_A, ev_B, ev_C, ev_D, Nat.reduceAdd, List.mem_cons, List.not_mem_nil, or_false, or_true, true_or, false_or, or_self, Nat.reduceEqDiff, reduceCtorEq, ↓reduceIte, List.length_cons, List.length_nil, Nat.reduceLT, Nat.reduceLeDiff, Nat.le_refl, implies_true, true_and, and_true, Option.toList, List.cons_append, List.nil_append, gs_184, g21]
        refine ⟨fun q => absurd q (nI_ge (by omega) (by omega)), fun _ => ?_⟩
        refine ma_callX (mc' := 0) (ms' := 0) mt_Mod_inverse rfl rfl (Nat.le_of_ble_eq_true rfl) (by decide) (by decide) (m_inverse l g true (show a < 256 by omega) (by omega)) ?_
        intro v S' H2 hpost
        obtain ⟨rfl, rfl, rfl⟩ := hpost
        simp only [↓na_iff, ex_inl, tk_len, tk_sh, zI, zL, zR, uR_e, uI_s, uR_1, uR_2, pa_Mod_init, ma_go, ev_A, ev_B, ev_C, ev_D, Nat.reduceAdd, List.mem_cons, List.not_mem_nil, or_false, or_true, true_or, false_or, or_self, Nat.reduceEqDiff, reduceCtorEq, ↓reduceIte, List.length_cons, List.length_nil, Nat.reduceLT, Nat.reduceLeDiff, Nat.le_refl, implies_true, true_and, and_true, Option.toList, List.cons_append, List.nil_append]
        rw [nI_clamp (n := a) (by omega), nx_1]
        refine ⟨ma_in_of s200 (by omega) (by decide), ih (a + 1) _ (by omega) (by omega) (on_uI oH _ _ (by simp)) (fun i hi => by rw [uI_ne (by omega)]; exact h1 i hi) (fun b b1 b2 => ?_)⟩
        by_cases z : b = a
        · rw [z, uI_same]
        · rw [uI_ne (fun y => z y.2)]; exact h2 b b1 (by omega)
    have loop1 : ∀ m k H, k + m = 96 → on H0 H [199, 200] → (∀ i, i < k → H.1 199 i = nI (gf_ex i)) → xJ l g Q 68 [some (.ref 184), some (.int (nI k))] [] 16 9527 (GS.take 199) H := by
      intro m
      induction m with
      | zero =>
        intro k H hk oH h1
        have e : k = 96 := by omega
        subst e
        have t := loop2 255 1 H (by omega) (by omega) oH h1 (fun b b1 b2 => by omega)
        refine ma_runX (mc := 16) (ms := 9527) po_Mod_init rfl rfl [68, 71, 81] 60 ?_
        simp only [↓na_iff, ex_inl, tk_len, tk_sh, zI, zL, zR, uR_e, uI_s, uR_1, uR_2, pa_Mod_init, ma_go, ev_A, ev_B, ev_C, ev_D, Nat.reduceAdd, List.mem_cons, List.not_mem_nil, or_false, or_true, true_or, false_or, or_self, Nat.reduceEqDiff, reduceCtorEq, ↓reduceIte, List.length_cons, List.length_nil, Nat.reduceLT, Nat.reduceLeDiff, Nat.le_refl, implies_true, true_and, and_true, Option.toList, List.cons_append, List.nil_append]
        exact ⟨fun _ => t, fun q => absurd (nI_le (Nat.le_refl _) (by omega)) q⟩
      | succ m ih =>
        intro k H hk oH h1
        have g20 : H.2.2 184 20 = 199 := by rw [oH.1]; exact q20
        refine ma_runX (mc := 16) (ms := 9527) po_Mod_init rfl rfl [68, 79] 60 ?_
        simp only [↓na_iff, ex_inl, tk_len, tk_sh, zI, zL, zR, uR_e, uI_s, uR_1, uR_2, pa_Mod_init, ma_go, ev_A, ev_B, ev_C, ev_D, Nat.reduceAdd, List.mem_cons, List.not_mem_nil, or_false, or_true, true_or, false_or, or_self, Nat.reduceEqDiff, reduceCtorEq, ↓reduceIte, List.length_cons, List.length_nil, Nat.reduceLT, Nat.reduceLeDiff, Nat.le_refl, implies_true, true_and, and_true, Option.toList, List.cons_append, List.nil_append, gs_184, g20]
        refine ⟨fun q => absurd q (nI_ge (by omega) (by omega)), fun _ => ?_⟩
        refine ma_callX (mc' := 0) (ms' := 0) mt_Mod_power rfl rfl (Nat.le_of_ble_eq_true rfl) (by decide) (by decide) (m_power l g true (show k < 1000 by omega)) ?_
        intro v S' H2 hpost
        obtain ⟨rfl, rfl, rfl⟩ := hpost
        simp only [↓na_iff, ex_inl, tk_len, tk_sh, zI, zL, zR, uR_e, uI_s, uR_1, uR_2, pa_Mod_init, ma_go, ev_A, ev_B, ev_C, ev_D, Nat.reduceAdd, List.mem_cons, List.not_mem_nil, or_false, or_true, true_or, false_or, or_self, Nat.reduceEqDiff, reduceCtorEq, ↓reduceIte, List.length_cons, List.length_nil, Nat.reduceLT, Nat.reduceLeDiff, Nat.le_refl, implies_true, true_and, and_true, Option.toList, List.cons_append, List.nil_append]
        rw [nI_clamp (n := k) (by omega), nx_1]
        refine ⟨ma_in_of s199 (by omega) (by decide), ih (k + 1) _ (by omega) (on_uI oH _ _ (by simp)) (fun i hi => ?_)⟩
        by_cases z : i = k
        · rw [z, uI_same]
        · rw [uI_ne (fun y => z y.2)]; exact h1 i (by omega)
    exact loop1 96 0 H0 (by omega) (on_rf _ _) (fun i hi => by omega)
  have t := main _ rfl
  refine ma_runX (mc := 16) (ms := 9527) po_Mod_init rfl rfl [68] 100 ?_
  simp only [↓na_iff, ex_inl, tk_len, tk_sh, zI, zL, zR, uR_e, uI_s, uR_1, uR_2, pa_Mod_init, ma_go, ev_A, ev_B, ev_C, ev_D, Nat.reduceAdd, List.mem_cons, List.not_mem_nil, or_false, or_true, true_or, false_or, or_self, Nat.reduceEqDiff, reduceCtorEq, ↓reduceIte, List.length_cons, List.length_nil, Nat.reduceLT, Nat.reduceLeDiff, Nat.le_refl, implies_true, true_and, and_true, Option.toList, List.cons_append, List.nil_append, gs_184, t185, t186, t187, t188, t189, t190, t191, t192, t193, t194, t195, t196, t197, t198, t199, t200]
  exact t
