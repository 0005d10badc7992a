/-! the constructor of StrandArchive -/
theorem bd_mk {A : Nat → Prop} {h h' : ma_H} (m : mk A h h') {a : Nat} {w : Nat → Nat} (h1 : ¬ A a) (h2 : ¬ A (a + 1)) (hb : bd h a w) : bd h' a w := by
  obtain ⟨b2, b3, b4⟩ := hb
  refine ⟨fun i hi => ?_, ?_, ?_⟩
  · rw [(m (a + 1) h2).1]; exact b2 i hi
  · rw [(m a h1).1]; exact b3
  · rw [(m a h1).1]; exact b4
set_option maxRecDepth 30000 in
theorem m_Arc_init (l : Launch) (g : ma_G) {h : ma_H} (h0 : ∀ k, h.2.2 2 k = 0) : ma_PM l g true me_Arc_init [.ref 2] (GS.take 1) h (fun v S' h' => v = none ∧ S' = GS.take 182 ∧ mk (fun a => 2 ≤ a ∧ a ≤ 183) h h' ∧ (∀ a, 2 ≤ a → a ≤ 183 → ∀ k, h'.2.2 a k = pt0 a k) ∧ h'.1 2 2 = nI 0 ∧ h'.1 2 4 = nI 0 ∧ ar h' 3 160 (fun _ => 0) ∧ (∀ i, i < 255 → h'.1 161 i = nI (gf_ex i)) ∧ (∀ a, 1 ≤ a → a < 256 → h'.1 162 a = nI (gf_lg a)) ∧ bd h' 173 (fun _ => 0) ∧ bd h' 177 (fun _ => 0) ∧ h'.1 175 5 = nI 0 ∧ h'.1 175 6 = nI 0 ∧ h'.1 175 7 = nI 0) := by
  refine ma_PM_of (P := pr_Arc_init) (by decide) rfl (Nat.le_of_ble_eq_true rfl) ?_
  show ma_J l g true none me_Arc_init pr_Arc_init _ 0 [some (.ref 2)] [] 0 0 (GS.take 1) h
  generalize hQ : (fun (v : Option Value) (S' : ma_S) (h' : ma_H) => v = none ∧ S' = GS.take 182 ∧ mk (fun a => 2 ≤ a ∧ a ≤ 183) h h' ∧ (∀ a, 2 ≤ a → a ≤ 183 → ∀ k, h'.2.2 a k = pt0 a k) ∧ h'.1 2 2 = nI 0 ∧ h'.1 2 4 = nI 0 ∧ ar h' 3 160 (fun _ => 0) ∧ (∀ i, i < 255 → h'.1 161 i = nI (gf_ex i)) ∧ (∀ a, 1 ≤ a → a < 256 → h'.1 162 a = nI (gf_lg a)) ∧ bd h' 173 (fun _ => 0) ∧ bd h' 177 (fun _ => 0) ∧ h'.1 175 5 = nI 0 ∧ h'.1 175 6 = nI 0 ∧ h'.1 175 7 = nI 0) = Q
  have t3 : GS.take 1 ++ [.inr (.int, 160)] = GS.take 2 := tk_ap gs_3
  have t160 : GS.take 158 ++ [.inl 1] = GS.take 159 := tk_ap gs_160
  have t163 : GS.take 161 ++ [.inl 4] = GS.take 162 := tk_ap gs_163
  have t172 : GS.take 170 ++ [.inr (.int, 64)] = GS.take 171 := tk_ap gs_172
  have t173 : GS.take 171 ++ [.inl 2] = GS.take 172 := tk_ap gs_173
  have t175 : GS.take 173 ++ [.inl 5] = GS.take 174 := tk_ap gs_175
  refine ma_runX (mc := 181) (ms := 2008) po_Arc_init rfl rfl [] 80 ?_
  simp only [↓na_iff, ex_inl, tk_len, tk_sh, zI, zL, zR, uR_e, uI_s, uR_1, uR_2, pa_Arc_init, ma_go, ev_A, ev_B, ev_C, ev_D, Nat.reduceAdd, List.mem_cons, List.not_mem_nil, or_false, or_true, true_or, false_or, or_self, Nat.reduceEqDiff, reduceCtorEq, ↓reduceIte, List.length_cons, List.length_nil, Nat.reduceLT, Nat.reduceLeDiff, Nat.le_refl, implies_true, true_and, and_true, Option.toList, List.cons_append, List.nil_append, gs_2, t3]
  refine ma_callX (mc' := 65) (ms' := 256) mt_Arc_newRows rfl rfl (Nat.le_of_ble_eq_true rfl) (by decide) (by decide) (m_newRows l g) ?_
  intro v S' H1 hpost
  obtain ⟨rfl, rfl, m1, p1⟩ := hpost
  simp only [↓na_iff, ex_inl, tk_len, tk_sh, zI, zL, zR, uR_e, uI_s, uR_1, uR_2, pa_Arc_init, ma_go, ev_A, ev_B, ev_C, ev_D, Nat.reduceAdd, List.mem_cons, List.not_mem_nil, or_false, or_true, true_or, false_or, or_self, Nat.reduceEqDiff, reduceCtorEq, ↓reduceIte, List.length_cons, List.length_nil, Nat.reduceLT, Nat.reduceLeDiff, Nat.le_refl, implies_true, true_and, and_true, Option.toList, List.cons_append, List.nil_append, gs_2]
  refine ma_callX (mc' := 91) (ms' := 360) mt_Arc_newRows90 rfl rfl (Nat.le_of_ble_eq_true rfl) (by decide) (by decide) (m_newRows90 l g) ?_
  intro v S' H2 hpost
  obtain ⟨rfl, rfl, m2, p2⟩ := hpost
  simp only [↓na_iff, ex_inl, tk_len, tk_sh, zI, zL, zR, uR_e, uI_s, uR_1, uR_2, pa_Arc_init, ma_go, ev_A, ev_B, ev_C, ev_D, Nat.reduceAdd, List.mem_cons, List.not_mem_nil, or_false, or_true, true_or, false_or, or_self, Nat.reduceEqDiff, reduceCtorEq, ↓reduceIte, List.length_cons, List.length_nil, Nat.reduceLT, Nat.reduceLeDiff, Nat.le_refl, implies_true, true_and, and_true, Option.toList, List.cons_append, List.nil_append, gs_2, gs_160, t160]
  refine ma_callX (mc' := 2) (ms' := 511) mt_Fld_init rfl rfl (Nat.le_of_ble_eq_true rfl) (by decide) (by decide) (m_Fld_init l g (fun k => by rw [zR, if_pos rfl])) ?_
  intro v S' H3 hpost
  obtain ⟨rfl, rfl, m3, p3, f1, f2⟩ := hpost
  simp only [↓na_iff, ex_inl, tk_len, tk_sh, zI, zL, zR, uR_e, uI_s, uR_1, uR_2, pa_Arc_init, ma_go, ev_A, ev_B, ev_C, ev_D, Nat.reduceAdd, List.mem_cons, List.not_mem_nil, or_false, or_true, true_or, false_or, or_self, Nat.reduceEqDiff, reduceCtorEq, ↓reduceIte, List.length_cons, List.length_nil, Nat.reduceLT, Nat.reduceLeDiff, Nat.le_refl, implies_true, true_and, and_true, Option.toList, List.cons_append, List.nil_append, gs_2, gs_163, t163]
  refine ma_callX (mc' := 8) (ms' := 72) mt_Col_init rfl rfl (Nat.le_of_ble_eq_true rfl) (by decide) (by decide) (m_Col_init l g (fun k => by rw [zR, if_pos rfl])) ?_
  intro v S' H4 hpost
  obtain ⟨rfl, rfl, m4, p4⟩ := hpost
  simp only [↓na_iff, ex_inl, tk_len, tk_sh, zI, zL, zR, uR_e, uI_s, uR_1, uR_2, pa_Arc_init, ma_go, ev_A, ev_B, ev_C, ev_D, Nat.reduceAdd, List.mem_cons, List.not_mem_nil, or_false, or_true, true_or, false_or, or_self, Nat.reduceEqDiff, reduceCtorEq, ↓reduceIte, List.length_cons, List.length_nil, Nat.reduceLT, Nat.reduceLeDiff, Nat.le_refl, implies_true, true_and, and_true, Option.toList, List.cons_append, List.nil_append, gs_2, gs_173, t172, t173]
  refine ma_callX (mc' := 1) (ms' := 33) mt_Bod_init rfl rfl (Nat.le_of_ble_eq_true rfl) (by decide) (by decide) (m_Bod_init l g (p := 172) (by decide) (by decide) gs_173 gs_174 (fun k => by rw [zR, if_pos rfl])) ?_
  intro v S' H5 hpost
  obtain ⟨rfl, rfl, m5, p5, p5b, b5⟩ := hpost
  have e1 : ∀ k, H1.2.2 2 k = if k = 0 then 3 else 0 := fun k => by
    rw [(mk_to m1 (by omega)).2.2]
    simp [uR_e, zR, h0]
  have e2 : ∀ k, H2.2.2 2 k = if k = 1 then 4 else H1.2.2 2 k := fun k => by
    rw [(mk_to m2 (by omega)).2.2]
    simp [uR_e, zR, uI_s]
  have e3 : ∀ k, H3.2.2 2 k = if k = 3 then 69 else H2.2.2 2 k := fun k => by
    rw [(mk_to m3 (by omega)).2.2]
    simp [uR_e, zR, uI_s]
  have e4 : ∀ k, H4.2.2 2 k = if k = 5 then 160 else H3.2.2 2 k := fun k => by
    rw [(mk_to m4 (by omega)).2.2]
    simp [uR_e, zR, uI_s]
  have e5 : ∀ k, H5.2.2 2 k = if k = 7 then 172 else if k = 6 then 163 else H4.2.2 2 k := fun k => by
    rw [(mk_to m5 (by omega)).2.2]
    simp [uR_e, zR, uI_s]
  have e26 : H5.2.2 2 6 = 163 := by rw [e5]; rfl
  simp only [↓na_iff, ex_inl, tk_len, tk_sh, zI, zL, zR, uR_e, uI_s, uR_1, uR_2, pa_Arc_init, ma_go, ev_A, ev_B, ev_C, ev_D, Nat.reduceAdd, List.mem_cons, List.not_mem_nil, or_false, or_true, true_or, false_or, or_self, Nat.reduceEqDiff, reduceCtorEq, ↓reduceIte, List.length_cons, List.length_nil, Nat.reduceLT, Nat.reduceLeDiff, Nat.le_refl, implies_true, true_and, and_true, Option.toList, List.cons_append, List.nil_append, gs_2, gs_175, t175, e26]
  refine ma_callX (mc' := 8) (ms' := 527) mt_Dec_init rfl rfl (Nat.le_of_ble_eq_true rfl) (by decide) (by decide) (m_Dec_init l g (fun k => by rw [zR, if_pos rfl])) ?_
  intro v S' H6 hpost
  obtain ⟨rfl, rfl, m6, p6, b6, c5, c6, c7⟩ := hpost
  have e6 : ∀ k, H6.2.2 2 k = if k = 8 then 173 else H5.2.2 2 k := fun k => by
    rw [(mk_to m6 (by omega)).2.2]
    simp [uR_e, zR, uI_s]
  have i2 : ∀ k, H2.1 2 k = if k = 2 then nI 0 else H1.1 2 k := fun k => by
    rw [(mk_to m2 (by omega)).1]
    simp [ma_uI, ma_uR]
  have i3 : ∀ k, H3.1 2 k = if k = 4 then nI 0 else H2.1 2 k := fun k => by
    rw [(mk_to m3 (by omega)).1]
    simp [ma_uI, ma_uR, ma_z]
  have i4 : ∀ k, H4.1 2 k = H3.1 2 k := fun k => by
    rw [(mk_to m4 (by omega)).1]
    simp [ma_uI, ma_uR, ma_z]
  have i5 : ∀ k, H5.1 2 k = H4.1 2 k := fun k => by
    rw [(mk_to m5 (by omega)).1]
    simp [ma_uI, ma_uR, ma_z]
  have i6 : ∀ k, H6.1 2 k = H5.1 2 k := fun k => by
    rw [(mk_to m6 (by omega)).1]
    simp [ma_uI, ma_uR, ma_z]
  have z172 : ∀ k, H5.2.2 172 k = 0 := fun k => by
    rw [(mk_to m5 (by omega)).2.2]
    simp [uR_e, zR, uI_s]
  simp only [↓na_iff, ex_inl, tk_len, tk_sh, zI, zL, zR, uR_e, uI_s, uR_1, uR_2, pa_Arc_init, ma_go, ev_A, ev_B, ev_C, ev_D, Nat.reduceAdd, List.mem_cons, List.not_mem_nil, or_false, or_true, true_or, false_or, or_self, Nat.reduceEqDiff, reduceCtorEq, ↓reduceIte, List.length_cons, List.length_nil, Nat.reduceLT, Nat.reduceLeDiff, Nat.le_refl, implies_true, true_and, and_true, Option.toList, List.cons_append, List.nil_append, gs_2]
  have M6 : mk (fun a => a = 2) H6 (ma_uR H6 2 9 175) := mk_uR _ _ _ _
  have M5 : mk (fun a => a = 2 ∨ 175 ≤ a) H5 (ma_uR H6 2 9 175) := mk_mo (mk_tr (mk_tr (mk_tr (mk_uR _ _ _ _) (mk_z _ _)) m6) M6) (fun a ha => by omega)
  have M4 : mk (fun a => a = 2 ∨ 172 ≤ a) H4 (ma_uR H6 2 9 175) := mk_mo (mk_tr (mk_tr (mk_tr (mk_tr (mk_tr (mk_uR _ _ _ _) (mk_z _ _)) (mk_uR _ _ _ _)) (mk_z _ _)) m5) M5) (fun a ha => by omega)
  have M3 : mk (fun a => a = 2 ∨ 163 ≤ a) H3 (ma_uR H6 2 9 175) := mk_mo (mk_tr (mk_tr (mk_tr (mk_uR _ _ _ _) (mk_z _ _)) m4) M4) (fun a ha => by omega)
  have M2 : mk (fun a => a = 2 ∨ 160 ≤ a) H2 (ma_uR H6 2 9 175) := mk_mo (mk_tr (mk_tr (mk_tr (mk_tr (mk_uR _ _ _ _) (mk_uI _ _ _ _)) (mk_z _ _)) m3) M3) (fun a ha => by omega)
  have M1 : mk (fun a => a = 2 ∨ 69 ≤ a) H1 (ma_uR H6 2 9 175) := mk_mo (mk_tr (mk_tr (mk_tr (mk_uR _ _ _ _) (mk_uI _ _ _ _)) m2) M2) (fun a ha => by omega)
  have M0 : mk (fun a => a = 2 ∨ 4 ≤ a) (ma_uR (ma_z h 3) 2 0 3) (ma_uR H6 2 9 175) := mk_mo (mk_tr m1 M1) (fun a ha => by omega)
  have up6 : ∀ a, a ≤ 183 → 175 ≤ a ∨ a ≤ 174 := fun a _ => by omega
  rw [← hQ]
  refine ⟨rfl, rfl, fun a ha => ?_, fun a a1 a2 k => ?_, ?_, ?_, fun i hi => ?_, fun i hi => ?_, fun a a1 a2 => ?_, bd_mk M5 (by omega) (by omega) b5, bd_mk M6 (by omega) (by omega) b6, ?_, ?_, ?_⟩
  · have q6 := mk_tr (mk_tr (mk_uR H5 2 8 173) (mk_z _ 175)) (mk_tr m6 M6)
    have q5 := mk_tr (mk_tr (mk_tr (mk_tr (mk_uR H4 2 6 163) (mk_z _ 172)) (mk_uR _ 2 7 172)) (mk_z _ 173)) (mk_tr m5 q6)
    have q4 := mk_tr (mk_tr (mk_uR H3 2 5 160) (mk_z _ 163)) (mk_tr m4 q5)
    have q3 := mk_tr (mk_tr (mk_tr (mk_uR H2 2 3 69) (mk_uI _ 2 4 (nI 0))) (mk_z _ 160)) (mk_tr m3 q4)
    have q2 := mk_tr (mk_tr (mk_uR H1 2 1 4) (mk_uI _ 2 2 (nI 0))) (mk_tr m2 q3)
    have q1 := mk_tr (mk_tr (mk_z h 3) (mk_uR _ 2 0 3)) (mk_tr m1 q2)
    exact q1 a (by omega)
  · by_cases r2 : a = 2
    · subst r2
      rw [uR_e, e6, e5, e4, e3, e2, e1]
      match k with
      | 0 => rfl
      | 1 => rfl
      | 2 => rfl
      | 3 => rfl
      | 4 => rfl
      | 5 => rfl
      | 6 => rfl
      | 7 => rfl
      | 8 => rfl
      | 9 => rfl
      | k + 10 => rfl
    · by_cases r3 : a = 3
      · subst r3
        rw [(mk_to M0 (by omega)).2.2]
        rfl
      · by_cases r4 : a ≤ 68
        · rw [(mk_to M1 (by omega)).2.2]; exact p1 a (by omega) r4 k
        · by_cases r5 : a ≤ 159
          · rw [(mk_to M2 (by omega)).2.2]; exact p2 a (by omega) r5 k
          · by_cases r6 : a ≤ 162
            · rw [(mk_to M3 (by omega)).2.2]; exact p3 a (by omega) r6 k
            · by_cases r7 : a ≤ 171
              · rw [(mk_to M4 (by omega)).2.2]; exact p4 a (by omega) r7 k
              · by_cases r8 : a = 172
                · subst r8
                  rw [(mk_to M5 (by omega)).2.2, z172 k]
                  rfl
                · by_cases r9 : a ≤ 174
                  · rw [(mk_to M5 (by omega)).2.2]
                    have : a = 173 ∨ a = 174 := by omega
                    rcases this with rfl | rfl
                    · rw [p5 k]
                      match k with
                      | 0 => rfl
                      | k + 1 => rfl
                    · rw [p5b k]
                      rfl
                  · rw [(mk_to M6 (by omega)).2.2]; exact p6 a (by omega) a2 k
  · rw [uR_1, i6, i5, i4, i3, i2]
    rfl
  · rw [uR_1, i6, i5, i4, i3]
    rfl
  · rw [(mk_to M0 (by omega)).1]
    rfl
  · rw [(mk_to M3 (by omega)).1]; exact f1 i hi
  · rw [(mk_to M3 (by omega)).1]; exact f2 a a1 a2
  · rw [uR_1]; exact c5
  · rw [uR_1]; exact c6
  · rw [uR_1]; exact c7
