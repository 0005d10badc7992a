/-! Column: the recurrence, the wrong places, the filling, the mending -/
theorem cp_same {h : ma_H} {a0 a n j : Nat} (hj : j < n) : (ma_cp h a0 0 a 0 n).1 a j = h.1 a0 j := by
  show (if a = a ∧ 0 ≤ j ∧ j < 0 + n then h.1 a0 (0 + (j - 0)) else h.1 a j) = _
  rw [if_pos ⟨rfl, Nat.zero_le _, by omega⟩, Nat.sub_zero, Nat.zero_add]
theorem cp_ne {h : ma_H} {a0 d0 a d n b j : Nat} (hb : ¬ b = a) : (ma_cp h a0 d0 a d n).1 b j = h.1 b j := by
  show (if b = a ∧ d ≤ j ∧ j < d + n then h.1 a0 (d0 + (j - d)) else h.1 b j) = _
  rw [if_neg (fun q => hb q.1)]
theorem on_cp {h h' : ma_H} {L : List Nat} (ho : on h h' L) {a : Nat} (a0 d0 d n : Nat) (ha : a ∈ L) : on h (ma_cp h' a0 d0 a d n) L := by
  refine ⟨ho.1, fun b hb => ?_⟩
  rw [← ho.2 b hb]
  funext j
  have : ¬ b = a := fun e => hb (by rw [e]; exact ha)
  simp [ma_cp, this]
theorem m_findRecurrence (l : Launch) (g : ma_G) (x : Bool) {h : ma_H} (hp : pt_ok h) (hf : fd_ok h) {T : Nat → Nat} (hT : ∀ i, T i < 256) {N : Nat} (hN : N ≤ 6) (h1 : ar h 167 N T) : ma_PM l g x me_Col_findRecurrence [.ref 163, .int (nI N)] GS h (fun v S' h' => ∃ C B L m b, v = some (.int (nI L)) ∧ S' = GS ∧ on h h' [169, 170, 171] ∧ gf_bm T N C B L m b ∧ ar h' 169 7 C) := by
  refine ma_PM_of (P := pr_Col_findRecurrence) (by decide) rfl (Nat.le_of_ble_eq_true rfl) ?_
  show ma_J l g x none me_Col_findRecurrence pr_Col_findRecurrence _ 0 [some (.ref 163), some (.int (nI N)), none, none, none, none, none, none, none] [] 0 0 GS h
  generalize hQ : (fun (v : Option Value) (S' : ma_S) (h' : ma_H) => ∃ C B L m b, v = some (.int (nI L)) ∧ S' = GS ∧ on h h' [169, 170, 171] ∧ gf_bm T N C B L m b ∧ ar h' 169 7 C) = Q
  have outer : ∀ n k C B L m b h', k + n = N → on h h' [169, 170, 171] → gf_bm T k C B L m b → ar h' 169 7 C → ar h' 170 7 B → ma_J l g x none me_Col_findRecurrence pr_Col_findRecurrence Q 26 [some (.ref 163), some (.int (nI N)), some (.int (nI b)), some (.int (nI L)), some (.int (nI m)), some (.int (nI k)), none, none, none] [] 0 0 GS h' := by
    intro n
    induction n with
    | zero =>
      intro k C B L m b h' hk ho hbm hC hB
      refine ma_run0 po_Col_findRecurrence rfl rfl [26] 60 ?_
      simp only [pc_Col_findRecurrence_0, pc_Col_findRecurrence_1, pc_Col_findRecurrence_2, ma_go, ev_A, ev_B, ev_C, ev_D, Nat.reduceAdd, List.mem_cons, List.not_mem_nil, or_false, or_true, true_or, false_or, or_self, Nat.reduceEqDiff, reduceCtorEq, ↓reduceIte, List.length_cons, List.length_nil, Nat.reduceLT, Nat.reduceLeDiff, Nat.le_refl, implies_true, true_and, and_true, Option.toList, List.cons_append, List.nil_append]
      have e : k = N := by omega
      subst e
      refine ⟨fun _ => ?_, fun q => absurd (nI_le (Nat.le_refl _) (by omega)) q⟩
      rw [← hQ]
      exact ⟨C, B, L, m, b, rfl, rfl, ho, hbm, hC⟩
    | succ n ih =>
      intro k C B L m b h' hk ho hbm hC hB
      have hp' := on_pt ho hp
      have hf' := fd_on ho (by decide) (by decide) hf
      have h1' := ar_on ho (by decide) h1
      have hb1 := hbm.1
      obtain ⟨c0, cl, bl, cdeg, hLk, -, -, bb, b0⟩ := hb1
      have hm7 : 1 ≤ m ∧ m ≤ k + 1 := by rcases hbm.2 with r | r <;> omega
      refine ma_run0 po_Col_findRecurrence rfl rfl [26, 56] 80 ?_
      simp only [pc_Col_findRecurrence_0, pc_Col_findRecurrence_1, pc_Col_findRecurrence_2, ma_go, ev_A, ev_B, ev_C, ev_D, Nat.reduceAdd, List.mem_cons, List.not_mem_nil, or_false, or_true, true_or, false_or, or_self, Nat.reduceEqDiff, reduceCtorEq, ↓reduceIte, List.length_cons, List.length_nil, Nat.reduceLT, Nat.reduceLeDiff, Nat.le_refl, implies_true, true_and, and_true, Option.toList, List.cons_append, List.nil_append, pt_Col hp', gs_163]
      refine ⟨fun q => absurd q (nI_ge (by omega) (by omega)), fun _ => ?_⟩
      refine ma_callD mt_Col_missAt rfl rfl (Nat.le_of_ble_eq_true rfl) (Nat.le_refl _) (Nat.le_refl _) (m_missAt l g x hp' hf' cl hT hC h1' (by omega) hN hLk) ?_
      simp only [pc_Col_findRecurrence_0, pc_Col_findRecurrence_1, pc_Col_findRecurrence_2, ma_go, ev_A, ev_B, ev_C, ev_D, Nat.reduceAdd, List.mem_cons, List.not_mem_nil, or_false, or_true, true_or, false_or, or_self, Nat.reduceEqDiff, reduceCtorEq, ↓reduceIte, List.length_cons, List.length_nil, Nat.reduceLT, Nat.reduceLeDiff, Nat.le_refl, implies_true, true_and, and_true, Option.toList, List.cons_append, List.nil_append, pt_Col hp', gs_163]
      generalize hd : gf_s (L + 1) (fun i => gf_m (C i) (T (k - i))) = d
      have hdl : d < 256 := by rw [← hd]; exact gf_s_lt (fun _ _ => gf_m_lt _ _)
      refine ⟨fun q => ?_, fun q => ?_⟩
      · have hd0 : d ≠ 0 := fun e => q (by rw [e])
        obtain ⟨hm1, hm2⟩ := gf_bm_miss hT hbm hd hd0
        refine ⟨7, gs_169, 7, 7, 0, 0, 7, gs_169, gs_171, rfl, rfl, rfl, by decide, by decide, by decide, by decide, ?_⟩
        have ho2 := on_cp ho 169 0 0 7 (a := 171) (by simp)
        have hp2 := on_pt ho2 hp
        have hf2 := fd_on ho2 (by decide) (by decide) hf
        rw [pt_163_0 hp2]
        refine ⟨gs_160, ?_⟩
        refine ma_callD mt_Fld_over rfl rfl (Nat.le_of_ble_eq_true rfl) (Nat.le_refl _) (Nat.le_refl _) (m_over l g x hf2 hdl bb b0) ?_
        simp only [pc_Col_findRecurrence_0, pc_Col_findRecurrence_1, pc_Col_findRecurrence_2, ma_go, ev_A, ev_B, ev_C, ev_D, Nat.reduceAdd, List.mem_cons, List.not_mem_nil, or_false, or_true, true_or, false_or, or_self, Nat.reduceEqDiff, reduceCtorEq, ↓reduceIte, List.length_cons, List.length_nil, Nat.reduceLT, Nat.reduceLeDiff, Nat.le_refl, implies_true, true_and, and_true, Option.toList, List.cons_append, List.nil_append]
        have hC2 : ar (ma_cp h' 169 0 171 0 7) 169 7 C := fun j hj => by
          rw [cp_ne (by decide)]
          exact hC j hj
        have hB2 : ar (ma_cp h' 169 0 171 0 7) 170 7 B := fun j hj => by
          rw [cp_ne (by decide)]
          exact hB j hj
        have hK2 : ar (ma_cp h' 169 0 171 0 7) 171 7 C := fun j hj => by rw [cp_same hj]; exact hC j hj
        have hfl : gf_m d (gf_inv b) < 256 := gf_m_lt _ _
        have inner : ∀ r i h3, i + r = 7 → m ≤ i → on h h3 [169, 170, 171] → (∀ j, j < 7 → h3.1 169 j = nI (if j < i then gf_mix C B m (gf_m d (gf_inv b)) j else C j)) → ar h3 170 7 B → ar h3 171 7 C → ma_J l g x none me_Col_findRecurrence pr_Col_findRecurrence Q 56 [some (.ref 163), some (.int (nI N)), some (.int (nI b)), some (.int (nI L)), some (.int (nI m)), some (.int (nI k)), some (.int (nI d)), some (.int (nI (gf_m d (gf_inv b)))), some (.int (nI i))] [] 0 0 GS h3 := by
          intro r
          induction r with
          | zero =>
            intro i h3 hi hmi ho3 hA hB3 hK3
            have hp3 := on_pt ho3 hp
            have e : i = 7 := by omega
            subst e
            have hA' : ar h3 169 7 (gf_mix C B m (gf_m d (gf_inv b))) := fun j hj => by rw [hA j hj, if_pos hj]
            refine ma_run0 po_Col_findRecurrence rfl rfl [26, 56] 80 ?_
            simp only [pc_Col_findRecurrence_0, pc_Col_findRecurrence_1, pc_Col_findRecurrence_2, ma_go, ev_A, ev_B, ev_C, ev_D, Nat.reduceAdd, List.mem_cons, List.not_mem_nil, or_false, or_true, true_or, false_or, or_self, Nat.reduceEqDiff, reduceCtorEq, ↓reduceIte, List.length_cons, List.length_nil, Nat.reduceLT, Nat.reduceLeDiff, Nat.le_refl, implies_true, true_and, and_true, Option.toList, List.cons_append, List.nil_append, pt_Col hp3, gs_163]
            refine ⟨7, gs_169, fun _ => ?_, fun q => absurd (nI_le (Nat.le_refl _) (by omega)) q⟩
            rw [pk_mul, nx_1, nx_1]
            refine ⟨fun q => ?_, fun q => ?_⟩
            · have hle := (nI_leI (by omega) (by omega)).mp q
              refine ⟨7, gs_171, 7, 7, 0, 0, 7, gs_171, gs_170, rfl, rfl, rfl, by decide, by decide, by decide, by decide, ?_⟩
              rw [nx_sub' (by omega)]
              refine ma_J.less (ih (k + 1) _ C (k + 1 - L) 1 d _ (by omega) (on_cp ho3 _ _ _ _ (by simp)) (hm2 hle) (fun j hj => ?_) (fun j hj => ?_)) ⟨rfl, rfl, rfl, rfl, rfl, rfl, trivial⟩
              · rw [cp_ne (by decide)]
                exact hA' j hj
              · rw [cp_same hj]
                exact hK3 j hj
            · have hgt : k < 2 * L := by
                refine Nat.lt_of_not_le (fun z => q ?_)
                exact nI_le z (by omega)
              exact ma_J.less (ih (k + 1) _ B L (m + 1) b h3 (by omega) ho3 (hm1 hgt) hA' hB3) ⟨rfl, rfl, rfl, rfl, rfl, rfl, trivial⟩
          | succ r ihr =>
            intro i h3 hi hmi ho3 hA hB3 hK3
            have hp3 := on_pt ho3 hp
            have hf3 := fd_on ho3 (by decide) (by decide) hf
            refine ma_run0 po_Col_findRecurrence rfl rfl [26, 56] 80 ?_
            simp only [pc_Col_findRecurrence_0, pc_Col_findRecurrence_1, pc_Col_findRecurrence_2, ma_go, ev_A, ev_B, ev_C, ev_D, Nat.reduceAdd, List.mem_cons, List.not_mem_nil, or_false, or_true, true_or, false_or, or_self, Nat.reduceEqDiff, reduceCtorEq, ↓reduceIte, List.length_cons, List.length_nil, Nat.reduceLT, Nat.reduceLeDiff, Nat.le_refl, implies_true, true_and, and_true, Option.toList, List.cons_append, List.nil_append, pt_Col hp3, gs_163]
            refine ⟨7, gs_169, fun q => absurd q (nI_ge (by omega) (by omega)), fun _ => ?_⟩
            rw [nx_sub' hmi, nI_clamp (by omega), nI_clamp (by omega), hA i (by omega), if_neg (by omega), hB3 (i - m) (by omega)]
            refine ⟨ma_in_of gs_169 (by omega) (by decide), ma_in_of gs_170 (by omega) (by decide), gs_160, ?_⟩
            refine ma_callD mt_Fld_times rfl rfl (Nat.le_of_ble_eq_true rfl) (Nat.le_refl _) (Nat.le_refl _) (m_times l g x hf3 hfl (bl _)) ?_
            simp only [pc_Col_findRecurrence_0, pc_Col_findRecurrence_1, pc_Col_findRecurrence_2, ma_go, ev_A, ev_B, ev_C, ev_D, Nat.reduceAdd, List.mem_cons, List.not_mem_nil, or_false, or_true, true_or, false_or, or_self, Nat.reduceEqDiff, reduceCtorEq, ↓reduceIte, List.length_cons, List.length_nil, Nat.reduceLT, Nat.reduceLeDiff, Nat.le_refl, implies_true, true_and, and_true, Option.toList, List.cons_append, List.nil_append]
            rw [nx_xor, nx_1, nI_clamp (by omega)]
            refine ⟨ma_in_of gs_169 (by omega) (by decide), ihr (i + 1) _ (by omega) (by omega) (on_uI ho3 _ _ (by simp)) (fun j hj => ?_) (fun j hj => ?_) (fun j hj => ?_)⟩
            · by_cases e : j = i
              · subst e
                rw [uI_same, if_pos (by omega), gf_mix, if_neg (by omega)]
              · rw [uI_ne (fun q => e q.2), hA j hj]
                by_cases e2 : j < i
                · rw [if_pos e2, if_pos (by omega)]
                · rw [if_neg e2, if_neg (by omega)]
            · rw [uI_ne (fun q => absurd q.1 (by decide))]; exact hB3 j hj
            · rw [uI_ne (fun q => absurd q.1 (by decide))]; exact hK3 j hj
        refine inner (7 - m) m _ (by omega) (Nat.le_refl _) ho2 (fun j hj => ?_) hB2 hK2
        rw [hC2 j hj]
        by_cases e : j < m
        · rw [if_pos e, gf_mix, if_pos e, Nat.xor_zero]
        · rw [if_neg e]
      · have hd0 : d = 0 := (nI_eq (by omega) (by omega)).mp q
        rw [nx_1, nx_1]
        exact ma_J.less (ih (k + 1) C B L (m + 1) b h' (by omega) ho (gf_bm_zero hbm (by rw [hd, hd0])) hC hB) ⟨rfl, rfl, rfl, rfl, rfl, rfl, trivial⟩
  refine ma_run0 po_Col_findRecurrence rfl rfl [26] 60 ?_
  simp only [pc_Col_findRecurrence_0, pc_Col_findRecurrence_1, pc_Col_findRecurrence_2, ma_go, ev_A, ev_B, ev_C, ev_D, Nat.reduceAdd, List.mem_cons, List.not_mem_nil, or_false, or_true, true_or, false_or, or_self, Nat.reduceEqDiff, reduceCtorEq, ↓reduceIte, List.length_cons, List.length_nil, Nat.reduceLT, Nat.reduceLeDiff, Nat.le_refl, implies_true, true_and, and_true, Option.toList, List.cons_append, List.nil_append, pt_Col hp, gs_163]
  refine ma_callP mt_Arr_fill rfl rfl (Nat.le_of_ble_eq_true rfl) (Nat.le_refl _) (Nat.le_refl _) (m_fill l g x gs_169 (by decide) 0) ?_
  intro v S' h2 hpost
  obtain ⟨rfl, rfl, ho2, ha2⟩ := hpost
  have ho2' := on_mo (L' := [169, 170, 171]) ho2 (by simp)
  have hp2 := on_pt ho2' hp
  simp only [pc_Col_findRecurrence_0, pc_Col_findRecurrence_1, pc_Col_findRecurrence_2, ma_go, ev_A, ev_B, ev_C, ev_D, Nat.reduceAdd, List.mem_cons, List.not_mem_nil, or_false, or_true, true_or, false_or, or_self, Nat.reduceEqDiff, reduceCtorEq, ↓reduceIte, List.length_cons, List.length_nil, Nat.reduceLT, Nat.reduceLeDiff, Nat.le_refl, implies_true, true_and, and_true, Option.toList, List.cons_append, List.nil_append, pt_Col hp2, gs_163]
  refine ma_callP mt_Arr_fill rfl rfl (Nat.le_of_ble_eq_true rfl) (Nat.le_refl _) (Nat.le_refl _) (m_fill l g x gs_170 (by decide) 0) ?_
  intro v S' h3 hpost
  obtain ⟨rfl, rfl, ho3, ha3⟩ := hpost
  have ho3' := on_tr ho2' (on_mo (L' := [169, 170, 171]) ho3 (by simp))
  have hp3 := on_pt ho3' hp
  have ha2' := ar_on ho3 (by decide) ha2
  simp only [pc_Col_findRecurrence_0, pc_Col_findRecurrence_1, pc_Col_findRecurrence_2, ma_go, ev_A, ev_B, ev_C, ev_D, Nat.reduceAdd, List.mem_cons, List.not_mem_nil, or_false, or_true, true_or, false_or, or_self, Nat.reduceEqDiff, reduceCtorEq, ↓reduceIte, List.length_cons, List.length_nil, Nat.reduceLT, Nat.reduceLeDiff, Nat.le_refl, implies_true, true_and, and_true, Option.toList, List.cons_append, List.nil_append, pt_Col hp3, gs_163, uI_2]
  rw [nI_clamp (by omega)]
  refine ⟨ma_in_of gs_169 (by omega) (by decide), ma_in_of gs_170 (by omega) (by decide), outer N 0 gf_one gf_one 0 1 1 _ (by omega) (on_uI (on_uI ho3' _ _ (by simp)) _ _ (by simp)) (gf_bm_0 T) (fun j hj => ?_) (fun j hj => ?_)⟩
  · rw [uI_ne (fun q => absurd q.1 (by decide))]
    show _ = nI (if j = 0 then 1 else 0)
    by_cases e : j = 0
    · subst e; exact uI_same _ _ _ _
    · rw [uI_ne (fun q => e q.2), ha2' j hj, if_neg e]
  · show _ = nI (if j = 0 then 1 else 0)
    by_cases e : j = 0
    · subst e; exact uI_same _ _ _ _
    · rw [uI_ne (fun q => e q.2), uI_ne (fun q => absurd q.1 (by decide)), ha3 j hj, if_neg e]
