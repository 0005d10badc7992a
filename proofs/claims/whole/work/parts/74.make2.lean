/-! the constructors of Field and Body -/
theorem gf_ex_s (e : Nat) : gf_ex (e + 1) = if gf_ex e < 128 then 2 * gf_ex e else (2 * gf_ex e) ^^^ 285 := by
  have h1 : gf_ex (e + 1) = gf_m 2 (gf_ex e) := by
    rw [show (2 : Nat) = gf_ex 1 from rfl, gf_ex_add, Nat.add_comm]
  rw [h1, gf_m_two (gf_ex_pos e).2]
  unfold gf_xt
  by_cases q : gf_ex e < 128
  · rw [if_pos q]
    first | rw [if_pos (by omega)] | rw [if_neg (by omega)] | skip
  · rw [if_neg q]
    first | rw [if_neg (by omega)] | rw [if_pos (by omega)] | skip
abbrev yJ (l : Launch) (g : ma_G) (Q : ma_P) : ma_K := ma_J l g true none me_Fld_init pr_Fld_init Q
theorem m_Fld_init (l : Launch) (g : ma_G) {h : ma_H} (h0 : ∀ k, h.2.2 160 k = 0) : ma_PM l g true me_Fld_init [.ref 160] (GS.take 159) h (fun v S' h' => v = none ∧ S' = GS.take 161 ∧ mk (fun a => 160 ≤ a ∧ a ≤ 162) h h' ∧ (∀ a, 160 ≤ a → a ≤ 162 → ∀ k, h'.2.2 a k = pt0 a k) ∧ (∀ i, i < 255 → h'.1 161 i = nI (gf_ex i)) ∧ ∀ a, 1 ≤ a → a < 256 → h'.1 162 a = nI (gf_lg a)) := by
  refine ma_PM_of (P := pr_Fld_init) (by decide) rfl (Nat.le_of_ble_eq_true rfl) ?_
  show ma_J l g true none me_Fld_init pr_Fld_init _ 0 [some (.ref 160), none, none] [] 0 0 (GS.take 159) h
  generalize hQ : (fun (v : Option Value) (S' : ma_S) (h' : ma_H) => v = none ∧ S' = GS.take 161 ∧ mk (fun a => 160 ≤ a ∧ a ≤ 162) h h' ∧ (∀ a, 160 ≤ a → a ≤ 162 → ∀ k, h'.2.2 a k = pt0 a k) ∧ (∀ i, i < 255 → h'.1 161 i = nI (gf_ex i)) ∧ ∀ a, 1 ≤ a → a < 256 → h'.1 162 a = nI (gf_lg a)) = Q
  have t1 : GS.take 159 ++ [.inr (.int, 255)] = GS.take 160 := tk_ap gs_161
  have t2 : GS.take 160 ++ [.inr (.int, 256)] = GS.take 161 := tk_ap gs_162
  have sA1 : ma_sh (GS.take 161) 161 = some (.inr (.int, 255)) := by rw [tk_sh (by decide)]; exact gs_161
  have sA2 : ma_sh (GS.take 161) 162 = some (.inr (.int, 256)) := by rw [tk_sh (by decide)]; exact gs_162
  have main : ∀ H0 : ma_H, H0 = ma_uR (ma_z (ma_uR (ma_z h 161) 160 0 161) 162) 160 1 162 → yJ l g Q 14 [some (.ref 160), some (.int (nI 1)), some (.int (nI 0))] [] 2 511 (GS.take 161) H0 := by
    intro H0 e0
    have q0 : H0.2.2 160 0 = 161 := by rw [e0]; rfl
    have q1 : H0.2.2 160 1 = 162 := by rw [e0]; rfl
    have m0 : mk (fun a => 160 ≤ a ∧ a ≤ 162) h H0 := by
      rw [e0]
      exact mk_mo (mk_tr (mk_tr (mk_tr (mk_z _ _) (mk_uR _ _ _ _)) (mk_z _ _)) (mk_uR _ _ _ _)) (fun a ha => by omega)
    have p0 : ∀ a, 160 ≤ a → a ≤ 162 → ∀ k, H0.2.2 a k = pt0 a k := by
      intro a a1 a2 k
      rw [e0]
      have : a = 160 ∨ a = 161 ∨ a = 162 := by omega
      rcases this with rfl | rfl | rfl
      · match k with
        | 0 => rfl
        | 1 => rfl
        | k + 2 => exact h0 _
      · rfl
      · rfl
    have loop : ∀ m e H, e + m = 255 → on H0 H [161, 162] → (∀ i, i < e → H.1 161 i = nI (gf_ex i)) → (∀ i, i < e → H.1 162 (gf_ex i) = nI i) → yJ l g Q 14 [some (.ref 160), some (.int (nI (gf_ex e))), some (.int (nI e))] [] 2 511 (GS.take 161) H := by
      intro m
      induction m with
      | zero =>
        intro e H he oH h1 h2
        have e5 : e = 255 := by omega
        subst e5
        refine ma_runX (mc := 2) (ms := 511) po_Fld_init rfl rfl [14, 17] 60 ?_
        simp only [↓na_iff, ex_inl, tk_len, tk_sh, zI, zL, zR, uR_e, uI_s, uR_1, uR_2, pa_Fld_init, ma_go, ev_A, ev_B, ev_C, ev_D, Nat.reduceAdd, List.mem_cons, List.not_mem_nil, or_false, or_true, true_or, false_or, or_self, Nat.reduceEqDiff, reduceCtorEq, ↓reduceIte, List.length_cons, List.length_nil, Nat.reduceLT, Nat.reduceLeDiff, Nat.le_refl, implies_true, true_and, and_true, Option.toList, List.cons_append, List.nil_append]
        refine ⟨fun _ => ?_, fun q => absurd (nI_le (Nat.le_refl _) (by omega)) q⟩
        rw [← hQ]
        refine ⟨rfl, rfl, fun a ha => ?_, fun a a1 a2 k => ?_, h1, fun a a1 a2 => ?_⟩
        · obtain ⟨x1, x2, x3⟩ := m0 a ha
          refine ⟨?_, ?_, ?_⟩
          · rw [oH.2 a (by simp; omega)]; exact x1
          · rw [oH.1]; exact x2
          · rw [oH.1]; exact x3
        · rw [oH.1]; exact p0 a a1 a2 k
        · have := h2 (gf_lg a) (gf_lg_lt (by omega))
          rw [gf_ex_lg (by omega) (by omega)] at this
          exact this
      | succ m ih =>
        intro e H he oH h1 h2
        have b1 := (gf_ex_pos e).2
        have g0 : H.2.2 160 0 = 161 := by rw [oH.1]; exact q0
        have g1 : H.2.2 160 1 = 162 := by rw [oH.1]; exact q1
        have o2 : on H (ma_uI (ma_uI H 161 e (nI (gf_ex e))) 162 (gf_ex e) (nI e)) [161, 162] := on_uI (on_uI (on_rf H _) _ _ (by simp)) _ _ (by simp)
        have nxt : ∀ y, y = gf_ex (e + 1) → yJ l g Q 14 [some (.ref 160), some (.int (nI y)), some (.int (nI (e + 1)))] [] 2 511 (GS.take 161) (ma_uI (ma_uI H 161 e (nI (gf_ex e))) 162 (gf_ex e) (nI e)) := by
          intro y hy
          rw [hy]
          refine ih (e + 1) _ (by omega) (on_tr oH o2) (fun i hi => ?_) (fun i hi => ?_)
          · rw [uI_ne (by omega)]
            by_cases z : i = e
            · rw [z, uI_same]
            · rw [uI_ne (fun y => z y.2)]; exact h1 i (by omega)
          · by_cases z : i = e
            · rw [z, uI_same]
            · rw [uI_ne (fun y => z ?_), uI_ne (by omega)]
              · exact h2 i (by omega)
              · have := gf_ex_inj y.2
                omega
        have ex := gf_ex_s e
        refine ma_runX (mc := 2) (ms := 511) po_Fld_init rfl rfl [14, 42] 80 ?_
        simp only [↓na_iff, ex_inl, tk_len, tk_sh, zI, zL, zR, uR_e, uI_s, uR_1, uR_2, pa_Fld_init, ma_go, ev_A, ev_B, ev_C, ev_D, Nat.reduceAdd, List.mem_cons, List.not_mem_nil, or_false, or_true, true_or, false_or, or_self, Nat.reduceEqDiff, reduceCtorEq, ↓reduceIte, List.length_cons, List.length_nil, Nat.reduceLT, Nat.reduceLeDiff, Nat.le_refl, implies_true, true_and, and_true, Option.toList, List.cons_append, List.nil_append, gs_160, g0, g1]
        rw [nI_clamp (n := e) (by omega), nI_clamp (n := gf_ex e) (by omega), pk_mul, nx_xor, nx_1]
        refine ⟨fun q => absurd q (nI_ge (by omega) (by omega)), fun _ => ⟨ma_in_of sA1 (by omega) (by decide), ma_in_of sA2 (by omega) (by decide), fun q => nxt _ ?_, fun q => nxt _ ?_⟩⟩
        · have := (nI_leI (by omega) (by omega)).mp q
          rw [ex, if_neg (by omega)]
        · have : gf_ex e < 128 := Nat.lt_of_not_le (fun z => q (nI_le z (by omega)))
          rw [ex, if_pos this]
    exact loop 255 0 H0 (by omega) (on_rf _ _) (fun i hi => by omega) (fun i hi => by omega)
  have t := main _ rfl
  refine ma_runX (mc := 2) (ms := 511) po_Fld_init rfl rfl [14] 60 ?_
  simp only [↓na_iff, ex_inl, tk_len, tk_sh, zI, zL, zR, uR_e, uI_s, uR_1, uR_2, pa_Fld_init, ma_go, ev_A, ev_B, ev_C, ev_D, Nat.reduceAdd, List.mem_cons, List.not_mem_nil, or_false, or_true, true_or, false_or, or_self, Nat.reduceEqDiff, reduceCtorEq, ↓reduceIte, List.length_cons, List.length_nil, Nat.reduceLT, Nat.reduceLeDiff, Nat.le_refl, implies_true, true_and, and_true, Option.toList, List.cons_append, List.nil_append, t1, t2, gs_160]
  exact t
abbrev zJ (l : Launch) (g : ma_G) (Q : ma_P) : ma_K := ma_J l g true none me_Bod_init pr_Bod_init Q
theorem m_Bod_init (l : Launch) (g : ma_G) {p : Nat} (hp : p + 1 ≤ 200) (hp2 : 1 ≤ p) (s1 : ma_sh GS (p + 1) = some (.inl 2)) (s2 : ma_sh GS (p + 2) = some (.inr (.int, 33))) {h : ma_H} (h0 : ∀ k, h.2.2 (p + 1) k = 0) : ma_PM l g true me_Bod_init [.ref (p + 1)] (GS.take p) h (fun v S' h' => v = none ∧ S' = GS.take (p + 1) ∧ mk (fun a => a = p + 1 ∨ a = p + 2) h h' ∧ (∀ k, h'.2.2 (p + 1) k = if k = 0 then p + 2 else 0) ∧ (∀ k, h'.2.2 (p + 2) k = 0) ∧ bd h' (p + 1) (fun _ => 0)) := by
  refine ma_PM_of (P := pr_Bod_init) (by decide) rfl (Nat.le_of_ble_eq_true rfl) ?_
  show ma_J l g true none me_Bod_init pr_Bod_init _ 0 [some (.ref (p + 1)), none] [] 0 0 (GS.take p) h
  generalize hQ : (fun (v : Option Value) (S' : ma_S) (h' : ma_H) => v = none ∧ S' = GS.take (p + 1) ∧ mk (fun a => a = p + 1 ∨ a = p + 2) h h' ∧ (∀ k, h'.2.2 (p + 1) k = if k = 0 then p + 2 else 0) ∧ (∀ k, h'.2.2 (p + 2) k = 0) ∧ bd h' (p + 1) (fun _ => 0)) = Q
  have hl : (GS.take p).length = p := tk_len (by omega)
  have t1 : GS.take p ++ [.inr (.int, 33)] = GS.take (p + 1) := tk_ap s2
  have c1 : ma_sh (GS.take p) (p + 1) = some (.inl 2) := by rw [tk_sh (by omega)]; exact s1
  have c2 : ma_sh (GS.take (p + 1)) (p + 1) = some (.inl 2) := by rw [tk_sh (by omega)]; exact s1
  have main : ∀ H0 : ma_H, H0 = ma_uI (ma_uI (ma_uR (ma_z h (p + 2)) (p + 1) 0 (p + 2)) (p + 1) 1 (nI 0)) (p + 1) 2 (nI 0) → zJ l g Q 14 [some (.ref (p + 1)), some (.int (nI 1))] [] 1 33 (GS.take (p + 1)) H0 := by
    intro H0 e0
    have m0 : mk (fun a => a = p + 1 ∨ a = p + 2) h H0 := by
      rw [e0]
      exact mk_mo (mk_tr (mk_tr (mk_tr (mk_z _ _) (mk_uR _ _ _ _)) (mk_uI _ _ _ _)) (mk_uI _ _ _ _)) (fun a ha => by omega)
    have p0 : (∀ k, H0.2.2 (p + 1) k = if k = 0 then p + 2 else 0) ∧ ∀ k, H0.2.2 (p + 2) k = 0 := by
      refine ⟨fun k => ?_, fun k => ?_⟩
      · rw [e0]
        show (ma_uR (ma_z h (p + 2)) (p + 1) 0 (p + 2)).2.2 (p + 1) k = _
        rw [uR_e, zR]
        by_cases e : k = 0
        · rw [if_pos ⟨rfl, e⟩, if_pos e]
        · rw [if_neg (fun z => e z.2), if_neg (by omega), if_neg e, h0]
      · rw [e0]
        show (ma_uR (ma_z h (p + 2)) (p + 1) 0 (p + 2)).2.2 (p + 2) k = _
        rw [uR_e, zR, if_neg (by omega), if_pos rfl]
    have i0 : ∀ i, H0.1 (p + 2) i = 0 := fun i => by
      rw [e0, uI_ne (by omega), uI_ne (by omega)]
      show (ma_z h (p + 2)).1 (p + 2) i = 0
      rw [zI, if_pos rfl]
    have i1 : H0.1 (p + 1) 1 = nI 0 := by rw [e0, uI_ne (by omega), uI_same]
    have i2 : H0.1 (p + 1) 2 = nI 0 := by rw [e0, uI_same]
    have loop : ∀ m i H, i + m = 33 → 1 ≤ i → on H0 H [p + 1] → H.1 (p + 1) 1 = nI 0 → H.1 (p + 1) 2 = nI (sm i (ri (fun _ => 0))) → zJ l g Q 14 [some (.ref (p + 1)), some (.int (nI i))] [] 1 33 (GS.take (p + 1)) H := by
      intro m
      induction m with
      | zero =>
        intro i H hi _ oH h1 h2
        have e5 : i = 33 := by omega
        subst e5
        refine ma_runX (mc := 1) (ms := 33) po_Bod_init rfl rfl [14, 17] 60 ?_
        simp only [↓na_iff, ex_inl, tk_len, tk_sh, zI, zL, zR, uR_e, uI_s, uR_1, uR_2, pa_Bod_init, ma_go, ev_A, ev_B, ev_C, ev_D, Nat.reduceAdd, List.mem_cons, List.not_mem_nil, or_false, or_true, true_or, false_or, or_self, Nat.reduceEqDiff, reduceCtorEq, ↓reduceIte, List.length_cons, List.length_nil, Nat.reduceLT, Nat.reduceLeDiff, Nat.le_refl, implies_true, true_and, and_true, Option.toList, List.cons_append, List.nil_append]
        refine ⟨fun _ => ?_, fun q => absurd (nI_le (Nat.le_refl _) (by omega)) q⟩
        rw [← hQ]
        refine ⟨rfl, rfl, fun a ha => ?_, by rw [oH.1]; exact p0.1, by rw [oH.1]; exact p0.2, fun k hk => ?_, ?_, h2⟩
        · obtain ⟨x1, x2, x3⟩ := m0 a ha
          refine ⟨?_, ?_, ?_⟩
          · rw [oH.2 a (by simp; omega)]; exact x1
          · rw [oH.1]; exact x2
          · rw [oH.1]; exact x3
        · show H.1 (p + 2) k = nI 0
          rw [oH.2 (p + 2) (by simp), i0]
          rfl
        · rw [h1, sm_0 33 (fun _ _ => rfl)]
      | succ m ih =>
        intro i H hi i1 oH h1 h2
        have es : sm i (ri (fun _ => 0)) + i = sm (i + 1) (ri (fun _ => 0)) := by
          show _ = sm i (ri (fun _ => 0)) + ri (fun _ => 0) i
          unfold ri
          rw [if_pos ⟨by omega, Nat.le_refl _⟩]
        have i2 := ih (i + 1) (ma_uI H (p + 1) 2 (nI (sm i (ri (fun _ => 0)) + i))) (by omega) (by omega) (on_uI oH _ _ (by simp)) (by rw [uI_ne (by omega)]; exact h1) (by rw [uI_same, es])
        refine ma_runX (mc := 1) (ms := 33) po_Bod_init rfl rfl [14, 25] 60 ?_
        simp only [↓na_iff, ex_inl, tk_len, tk_sh, zI, zL, zR, uR_e, uI_s, uR_1, uR_2, pa_Bod_init, ma_go, ev_A, ev_B, ev_C, ev_D, Nat.reduceAdd, List.mem_cons, List.not_mem_nil, or_false, or_true, true_or, false_or, or_self, Nat.reduceEqDiff, reduceCtorEq, ↓reduceIte, List.length_cons, List.length_nil, Nat.reduceLT, Nat.reduceLeDiff, Nat.le_refl, implies_true, true_and, and_true, Option.toList, List.cons_append, List.nil_append, c2, h2]
        simp only [nI_add]
        exact ⟨fun q => absurd q (nI_ge (by omega) (by omega)), fun _ => i2⟩
    exact loop 32 1 H0 (by omega) (by omega) (on_rf _ _) i1 i2
  have t := main _ rfl
  refine ma_runX (mc := 1) (ms := 33) po_Bod_init rfl rfl [14] 60 ?_
  simp only [↓na_iff, ex_inl, tk_len, tk_sh, zI, zL, zR, uR_e, uI_s, uR_1, uR_2, pa_Bod_init, ma_go, ev_A, ev_B, ev_C, ev_D, Nat.reduceAdd, List.mem_cons, List.not_mem_nil, or_false, or_true, true_or, false_or, or_self, Nat.reduceEqDiff, reduceCtorEq, ↓reduceIte, List.length_cons, List.length_nil, Nat.reduceLT, Nat.reduceLeDiff, Nat.le_refl, implies_true, true_and, and_true, Option.toList, List.cons_append, List.nil_append, t1, hl, c1, c2]
  exact t
