/-! Column: the wrong places, the filling, the mending -/
theorem gf_ho_pr (t : List Nat) {s : Nat} (hs : s < 16) : gf_ho (fun i => gf_pc t (t.length - i)) t.length (gf_ex s) = gf_pr t (gf_ex s) := by
  have hC : ∀ i, (fun i => gf_pc t (t.length - i)) i < 256 := fun i => gf_pc_lt _ _
  have e1 := gf_ho_sum hC s t.length t.length (Nat.le_refl _)
  rw [Nat.sub_self, Nat.zero_mul, show gf_ex 0 = 1 from rfl, gf_m_one (gf_ho_lt hC _ _)] at e1
  rw [← e1]
  have e2 := gf_s_rev t.length (fun i => gf_m (gf_pc t i) (gf_ex (i * s)))
  have e3 : gf_s (t.length + 1) (fun i => gf_m ((fun i => gf_pc t (t.length - i)) i) (gf_ex ((t.length - i) * s))) = gf_s (t.length + 1) (fun i => gf_m (gf_pc t i) (gf_ex (i * s))) := e2
  rw [e3]
  have he : ∀ u, u < 16 → (fun u => if u = s then 1 else 0) u < 256 := fun u _ => by
    show (if u = s then 1 else 0) < 256
    split <;> decide
  have e4 : (fun j => gf_ex (j * s)) = gf_sy (fun u => if u = s then 1 else 0) := by
    funext j
    unfold gf_sy
    rw [gf_s_one hs (fun u hu hus => by dsimp only; rw [if_neg hus, gf_m_zero_left])]
    dsimp only
    rw [if_pos rfl, gf_one_m (gf_ex_pos _).2]
  have e5 := gf_wg t (S := fun j => gf_ex (j * s)) (fun j => (gf_ex_pos _).2) 0
  simp only [Nat.zero_add] at e5
  rw [e5, e4, gf_dl_sy t he]
  unfold gf_sy
  rw [gf_s_one hs (fun u hu hus => by dsimp only; rw [if_neg hus, gf_m_zero_left, gf_m_zero_left])]
  dsimp only
  rw [if_pos rfl, gf_one_m (gf_pr_lt _ _), Nat.zero_mul]
  exact gf_m_one (gf_pr_lt _ _)
theorem zb_nar (b : Bool) : vp_nar .boolean (nI (zb b)) = nI (zb b) := by cases b <;> decide +kernel
theorem m_markWrong (l : Launch) (g : ma_G) (x : Bool) {h : ma_H} (hp : pt_ok h) (hf : fd_ok h) {M : Nat → Bool} (h1 : az h 165 16 M) {C : Nat → Nat} (hC : ∀ i, C i < 256) (h2 : ar h 169 7 C) {L : Nat} (hL : L < 7) : ma_PM l g x me_Col_markWrong [.ref 163, .int (nI L)] GS h (fun v S' h' => v = some (.int (nI (gf_cn 16 (fun s => !M s && (gf_ho C L (gf_ex s) == 0))))) ∧ S' = GS ∧ on h h' [165] ∧ az h' 165 16 (gf_mk M C L)) := by
  refine ma_PM_of (P := pr_Col_markWrong) (by decide) rfl (Nat.le_of_ble_eq_true rfl) ?_
  show ma_J l g x none me_Col_markWrong pr_Col_markWrong _ 0 [some (.ref 163), some (.int (nI L)), none, none] [] 0 0 GS h
  generalize hQ : (fun (v : Option Value) (S' : ma_S) (h' : ma_H) => v = some (.int (nI (gf_cn 16 (fun s => !M s && (gf_ho C L (gf_ex s) == 0))))) ∧ S' = GS ∧ on h h' [165] ∧ az h' 165 16 (gf_mk M C L)) = Q
  have loop : ∀ m s h', s + m = 16 → on h h' [165] → (∀ t, t < 16 → h'.1 165 t = nI (zb (if t < s then gf_mk M C L t else M t))) → ma_J l g x none me_Col_markWrong pr_Col_markWrong Q 4 [some (.ref 163), some (.int (nI L)), some (.int (nI (gf_cn s (fun s => !M s && (gf_ho C L (gf_ex s) == 0))))), some (.int (nI s))] [] 0 0 GS h' := by
    intro m
    induction m with
    | zero =>
      intro s h' hs ho ha
      refine ma_run0 po_Col_markWrong rfl rfl [4] 60 ?_
      simp only [pa_Col_markWrong, ma_go, ev_A, ev_B, ev_C, ev_D, Nat.reduceAdd, List.mem_cons, List.not_mem_nil, or_false, or_true, true_or, false_or, or_self, Nat.reduceEqDiff, reduceCtorEq, ↓reduceIte, List.length_cons, List.length_nil, Nat.reduceLT, Nat.reduceLeDiff, Nat.le_refl, implies_true, true_and, and_true, Option.toList, List.cons_append, List.nil_append]
      have e : s = 16 := by omega
      subst e
      refine ⟨fun _ => ?_, fun q => absurd (nI_le (Nat.le_refl _) (by omega)) q⟩
      rw [← hQ]
      exact ⟨rfl, rfl, ho, fun t ht => by rw [ha t ht, if_pos ht]⟩
    | succ m ih =>
      intro s h' hs ho ha
      have hp' := on_pt ho hp
      have hf' := fd_on ho (by decide) (by decide) hf
      have h2' := ar_on ho (by decide) h2
      refine ma_run0 po_Col_markWrong rfl rfl [4] 60 ?_
      simp only [pa_Col_markWrong, ma_go, ev_A, ev_B, ev_C, ev_D, Nat.reduceAdd, List.mem_cons, List.not_mem_nil, or_false, or_true, true_or, false_or, or_self, Nat.reduceEqDiff, reduceCtorEq, ↓reduceIte, List.length_cons, List.length_nil, Nat.reduceLT, Nat.reduceLeDiff, Nat.le_refl, implies_true, true_and, and_true, Option.toList, List.cons_append, List.nil_append, pt_Col hp', gs_163]
      refine ⟨fun q => absurd q (nI_ge (by omega) (by omega)), fun _ => ⟨ma_in_of gs_165 (by omega) (by decide), ?_⟩⟩
      rw [nI_clamp (by omega), ha s (by omega), if_neg (by omega)]
      have ih2 := ih (s + 1)
      have step : ∀ t, t < 16 → t ≠ s → (if t < s + 1 then gf_mk M C L t else M t) = (if t < s then gf_mk M C L t else M t) := fun t ht hts => by
        by_cases e : t < s
        · rw [if_pos e, if_pos (by omega)]
        · rw [if_neg e, if_neg (by omega)]
      have e0 : gf_cn (s + 1) (fun s => !M s && (gf_ho C L (gf_ex s) == 0)) = gf_cn s (fun s => !M s && (gf_ho C L (gf_ex s) == 0)) + zb (!M s && (gf_ho C L (gf_ex s) == 0)) := rfl
      rw [e0] at ih2
      cases hM : M s
      · refine ⟨fun q => absurd rfl q, fun _ => ⟨gs_160, ?_⟩⟩
        refine ma_callD mt_Fld_powerOfTwo rfl rfl (Nat.le_of_ble_eq_true rfl) (Nat.le_refl _) (Nat.le_refl _) (m_powerOfTwo l g x hf' (by omega)) ?_
        simp only [pa_Col_markWrong, ma_go, ev_A, ev_B, ev_C, ev_D, Nat.reduceAdd, List.mem_cons, List.not_mem_nil, or_false, or_true, true_or, false_or, or_self, Nat.reduceEqDiff, reduceCtorEq, ↓reduceIte, List.length_cons, List.length_nil, Nat.reduceLT, Nat.reduceLeDiff, Nat.le_refl, implies_true, true_and, and_true, Option.toList, List.cons_append, List.nil_append, pt_Col hp', gs_163]
        refine ma_callD mt_Col_recurrenceAt rfl rfl (Nat.le_of_ble_eq_true rfl) (Nat.le_refl _) (Nat.le_refl _) (m_recurrenceAt l g x hp' hf' hC h2' (gf_ex_pos _).2 hL) ?_
        simp only [pa_Col_markWrong, ma_go, ev_A, ev_B, ev_C, ev_D, Nat.reduceAdd, List.mem_cons, List.not_mem_nil, or_false, or_true, true_or, false_or, or_self, Nat.reduceEqDiff, reduceCtorEq, ↓reduceIte, List.length_cons, List.length_nil, Nat.reduceLT, Nat.reduceLeDiff, Nat.le_refl, implies_true, true_and, and_true, Option.toList, List.cons_append, List.nil_append, pt_Col hp', gs_163]
        have hho := gf_ho_lt hC L (gf_ex s)
        by_cases hr : gf_ho C L (gf_ex s) = 0
        · have e1 : (!M s && (gf_ho C L (gf_ex s) == 0)) = true := by simp [hM, hr]
          rw [e1] at ih2
          refine ⟨fun q => absurd (by rw [hr]) q, fun _ => ⟨ma_in_of gs_165 (by omega) (by decide), ?_⟩⟩
          rw [nx_1, nx_1, nI_clamp (by omega), show vp_nar .boolean (nI 1) = nI 1 from zb_nar true]
          refine ih2 _ (by omega) (on_uI ho _ _ (by simp)) (fun t ht => ?_)
          by_cases e : t = s
          · subst e
            rw [uI_same, if_pos (by omega), gf_mk, hr, hM]
            rfl
          · rw [uI_ne (fun q => e q.2), ha t ht, step t ht e]
        · have e1 : (!M s && (gf_ho C L (gf_ex s) == 0)) = false := by simp [hr]
          rw [e1] at ih2
          refine ⟨fun _ => ?_, fun q => absurd ((nI_eq (by omega) (by omega)).mp q) hr⟩
          rw [nx_1]
          refine ih2 _ (by omega) ho (fun t ht => ?_)
          by_cases e : t = s
          · subst e
            have e3 : (gf_ho C L (gf_ex t) == 0) = false := by simpa using hr
            rw [ha t ht, if_neg (by omega), if_pos (by omega), gf_mk, hM, e3]
            rfl
          · rw [ha t ht, step t ht e]
      · have e1 : (!M s && (gf_ho C L (gf_ex s) == 0)) = false := by simp [hM]
        rw [e1] at ih2
        refine ⟨fun _ => ?_, fun q => absurd q (by decide +kernel)⟩
        rw [nx_1]
        refine ih2 _ (by omega) ho (fun t ht => ?_)
        by_cases e : t = s
        · subst e
          rw [ha t ht, if_neg (by omega), if_pos (by omega), gf_mk, hM]
          rfl
        · rw [ha t ht, step t ht e]
  refine ma_run0 po_Col_markWrong rfl rfl [4] 60 ?_
  simp only [pa_Col_markWrong, ma_go, ev_A, ev_B, ev_C, ev_D, Nat.reduceAdd, List.mem_cons, List.not_mem_nil, or_false, or_true, true_or, false_or, or_self, Nat.reduceEqDiff, reduceCtorEq, ↓reduceIte, List.length_cons, List.length_nil, Nat.reduceLT, Nat.reduceLeDiff, Nat.le_refl, implies_true, true_and, and_true, Option.toList, List.cons_append, List.nil_append]
  exact loop 16 0 h rfl (on_rf h _) (fun t ht => by rw [if_neg (by omega)]; exact h1 t ht)
theorem m_fillUnknown (l : Launch) (g : ma_G) (x : Bool) {h : ma_H} (hp : pt_ok h) (hf : fd_ok h) {U : Nat → Bool} (h1 : az h 165 16 U) (hU : gf_cn 16 U ≤ 6) {c : Nat → Nat} (hc : ∀ s, s < 16 → c s < 256) (h2 : ar h 164 16 c) (h3 : ar h 166 6 (gf_sy c)) : ma_PM l g x me_Col_fillUnknown [.ref 163] GS h (fun v S' h' => v = none ∧ S' = GS ∧ on h h' [164, 168] ∧ ar h' 164 16 (fun s => c s ^^^ gf_fix c U s)) := by
  refine ma_PM_of (P := pr_Col_fillUnknown) (by decide) rfl (Nat.le_of_ble_eq_true rfl) ?_
  show ma_J l g x none me_Col_fillUnknown pr_Col_fillUnknown _ 0 [some (.ref 163), none, none] [] 0 0 GS h
  generalize hQ : (fun (v : Option Value) (S' : ma_S) (h' : ma_H) => v = none ∧ S' = GS ∧ on h h' [164, 168] ∧ ar h' 164 16 (fun s => c s ^^^ gf_fix c U s)) = Q
  have loop : ∀ m s h', s + m = 16 → on h h' [164, 168] → (∀ t, t < 16 → h'.1 164 t = nI (if t < s then c t ^^^ gf_fix c U t else c t)) → ma_J l g x none me_Col_fillUnknown pr_Col_fillUnknown Q 2 [some (.ref 163), some (.int (nI s)), none] [] 0 0 GS h' := by
    intro m
    induction m with
    | zero =>
      intro s h' hs ho ha
      refine ma_run0 po_Col_fillUnknown rfl rfl [2] 60 ?_
      simp only [pa_Col_fillUnknown, ma_go, ev_A, ev_B, ev_C, ev_D, Nat.reduceAdd, List.mem_cons, List.not_mem_nil, or_false, or_true, true_or, false_or, or_self, Nat.reduceEqDiff, reduceCtorEq, ↓reduceIte, List.length_cons, List.length_nil, Nat.reduceLT, Nat.reduceLeDiff, Nat.le_refl, implies_true, true_and, and_true, Option.toList, List.cons_append, List.nil_append]
      have e : s = 16 := by omega
      subst e
      refine ⟨fun _ => ?_, fun q => absurd (nI_le (Nat.le_refl _) (by omega)) q⟩
      rw [← hQ]
      exact ⟨rfl, rfl, ho, fun t ht => by rw [ha t ht, if_pos ht]⟩
    | succ m ih =>
      intro s h' hs ho ha
      have hp' := on_pt ho hp
      have hf' := fd_on ho (by decide) (by decide) hf
      have h1' := az_on ho (by decide) h1
      have h3' := ar_on ho (by decide) h3
      have ih2 := ih (s + 1)
      have step : ∀ t, t < 16 → t ≠ s → (if t < s + 1 then c t ^^^ gf_fix c U t else c t) = (if t < s then c t ^^^ gf_fix c U t else c t) := fun t ht hts => by
        by_cases e : t < s
        · rw [if_pos e, if_pos (by omega)]
        · rw [if_neg e, if_neg (by omega)]
      refine ma_run0 po_Col_fillUnknown rfl rfl [2] 60 ?_
      simp only [pa_Col_fillUnknown, ma_go, ev_A, ev_B, ev_C, ev_D, Nat.reduceAdd, List.mem_cons, List.not_mem_nil, or_false, or_true, true_or, false_or, or_self, Nat.reduceEqDiff, reduceCtorEq, ↓reduceIte, List.length_cons, List.length_nil, Nat.reduceLT, Nat.reduceLeDiff, Nat.le_refl, implies_true, true_and, and_true, Option.toList, List.cons_append, List.nil_append, pt_Col hp', gs_163]
      refine ⟨fun q => absurd q (nI_ge (by omega) (by omega)), fun _ => ⟨ma_in_of gs_165 (by omega) (by decide), ?_⟩⟩
      rw [nI_clamp (by omega), h1' s (by omega)]
      cases hUs : U s
      · refine ⟨fun _ => ?_, fun q => absurd rfl q⟩
        rw [nx_1]
        refine ih2 h' (by omega) ho (fun t ht => ?_)
        by_cases e : t = s
        · subst e
          rw [ha t ht, if_neg (by omega), if_pos (by omega), gf_fix_out hUs, Nat.xor_zero]
        · rw [ha t ht, step t ht e]
      · refine ⟨fun q => absurd q (by decide +kernel), fun _ => ?_⟩
        generalize hq : (fun i => U i && i != s) = q
        have hqn : gf_cn 16 q + 1 ≤ 6 := by
          have := gf_cn_lt (n := 16) (p := q) (q := U) (fun i _ hi => by rw [← hq] at hi; simp at hi; exact hi.1) (show s < 16 by omega) (by rw [← hq]; simp) hUs
          omega
        have hlen := gf_ul_len q 16
        have hqq : ∀ t, t < 16 → q t = (U t && !decide (nI t = nI s)) := fun t ht => by
          rw [← hq]
          dsimp only
          congr 1
          have : nI t = nI s ↔ t = s := nI_eq (by omega) (by omega)
          by_cases e : t = s
          · simp [e]
          · simp [e, this]
        refine ma_callP mt_Col_spanUnknown rfl rfl (Nat.le_of_ble_eq_true rfl) (Nat.le_refl _) (Nat.le_refl _) (m_spanUnknown l g x hp' hf' h1' hqq (by omega)) ?_
        intro v S' h4 hpost
        obtain ⟨rfl, rfl, ho4, ha4⟩ := hpost
        have ho4' := on_tr ho (on_mo (L' := [164, 168]) ho4 (by simp))
        have hp4 := on_pt ho4' hp
        have hf4 := fd_on ho4' (by decide) (by decide) hf
        have h34 := ar_on ho4' (by decide) h3
        simp only [pa_Col_fillUnknown, ma_go, ev_A, ev_B, ev_C, ev_D, Nat.reduceAdd, List.mem_cons, List.not_mem_nil, or_false, or_true, true_or, false_or, or_self, Nat.reduceEqDiff, reduceCtorEq, ↓reduceIte, List.length_cons, List.length_nil, Nat.reduceLT, Nat.reduceLeDiff, Nat.le_refl, implies_true, true_and, and_true, Option.toList, List.cons_append, List.nil_append, pt_Col hp4, gs_163]
        refine ⟨ma_in_of gs_164 (by omega) (by decide), ?_⟩
        rw [nI_clamp (by omega), ho4.2 164 (by decide), ha s (by omega), if_neg (by omega)]
        refine ma_callD mt_Col_weigh rfl rfl (Nat.le_of_ble_eq_true rfl) (Nat.le_refl _) (Nat.le_refl _) (m_weigh l g x hp4 hf4 (gf_pc_lt _) (gf_sy_lt c) ha4 h34 (st := 0) (by omega)) ?_
        simp only [pa_Col_fillUnknown, ma_go, ev_A, ev_B, ev_C, ev_D, Nat.reduceAdd, List.mem_cons, List.not_mem_nil, or_false, or_true, true_or, false_or, or_self, Nat.reduceEqDiff, reduceCtorEq, ↓reduceIte, List.length_cons, List.length_nil, Nat.reduceLT, Nat.reduceLeDiff, Nat.le_refl, implies_true, true_and, and_true, Option.toList, List.cons_append, List.nil_append, pt_Col hp4, gs_163]
        refine ⟨gs_160, ?_⟩
        refine ma_callD mt_Fld_powerOfTwo rfl rfl (Nat.le_of_ble_eq_true rfl) (Nat.le_refl _) (Nat.le_refl _) (m_powerOfTwo l g x hf4 (by omega)) ?_
        simp only [pa_Col_fillUnknown, ma_go, ev_A, ev_B, ev_C, ev_D, Nat.reduceAdd, List.mem_cons, List.not_mem_nil, or_false, or_true, true_or, false_or, or_self, Nat.reduceEqDiff, reduceCtorEq, ↓reduceIte, List.length_cons, List.length_nil, Nat.reduceLT, Nat.reduceLeDiff, Nat.le_refl, implies_true, true_and, and_true, Option.toList, List.cons_append, List.nil_append, pt_Col hp4, gs_163]
        refine ma_callD mt_Col_polynomialAt rfl rfl (Nat.le_of_ble_eq_true rfl) (Nat.le_refl _) (Nat.le_refl _) (m_polynomialAt l g x hp4 hf4 (gf_pc_lt _) ha4 (gf_ex_pos _).2 (by omega)) ?_
        simp only [pa_Col_fillUnknown, ma_go, ev_A, ev_B, ev_C, ev_D, Nat.reduceAdd, List.mem_cons, List.not_mem_nil, or_false, or_true, true_or, false_or, or_self, Nat.reduceEqDiff, reduceCtorEq, ↓reduceIte, List.length_cons, List.length_nil, Nat.reduceLT, Nat.reduceLeDiff, Nat.le_refl, implies_true, true_and, and_true, Option.toList, List.cons_append, List.nil_append, pt_Col hp4, gs_163]
        have hw := gf_wg (gf_ul q 16) (gf_sy_lt c) 0
        have hh := gf_ho_pr (gf_ul q 16) (show s < 16 by omega)
        rw [hlen] at hw hh
        rw [hw, hh]
        refine ⟨gs_160, ?_⟩
        refine ma_callD mt_Fld_over rfl rfl (Nat.le_of_ble_eq_true rfl) (Nat.le_refl _) (Nat.le_refl _) (m_over l g x hf4 (gf_dl_lt _ (gf_sy_lt c) _) (gf_pr_lt _ _) (gf_pr_ne (by omega) (fun t ht => ((gf_ul_mem q 16 t).mp ht).1) (fun z => by have := ((gf_ul_mem q 16 s).mp z).2; rw [← hq] at this; simp at this))) ?_
        simp only [pa_Col_fillUnknown, ma_go, ev_A, ev_B, ev_C, ev_D, Nat.reduceAdd, List.mem_cons, List.not_mem_nil, or_false, or_true, true_or, false_or, or_self, Nat.reduceEqDiff, reduceCtorEq, ↓reduceIte, List.length_cons, List.length_nil, Nat.reduceLT, Nat.reduceLeDiff, Nat.le_refl, implies_true, true_and, and_true, Option.toList, List.cons_append, List.nil_append]
        rw [nx_xor, nx_1, nI_clamp (by omega)]
        refine ⟨ma_in_of gs_164 (by omega) (by decide), ma_J.less (ih2 _ (by omega) (on_uI ho4' _ _ (by simp)) (fun t ht => ?_)) ⟨rfl, rfl, trivial⟩⟩
        by_cases e : t = s
        · subst e
          rw [uI_same, if_pos (by omega), gf_fix, if_pos hUs, hq]
        · rw [uI_ne (fun q => e q.2), ho4.2 164 (by decide), ha t ht, step t ht e]
  refine ma_run0 po_Col_fillUnknown rfl rfl [2] 60 ?_
  simp only [pa_Col_fillUnknown, ma_go, ev_A, ev_B, ev_C, ev_D, Nat.reduceAdd, List.mem_cons, List.not_mem_nil, or_false, or_true, true_or, false_or, or_self, Nat.reduceEqDiff, reduceCtorEq, ↓reduceIte, List.length_cons, List.length_nil, Nat.reduceLT, Nat.reduceLeDiff, Nat.le_refl, implies_true, true_and, and_true, Option.toList, List.cons_append, List.nil_append]
  exact loop 16 0 h rfl (on_rf h _) (fun t ht => by rw [if_neg (by omega)]; exact h2 t ht)
/-- the mending answers whether a near word is there, and makes the column that word -/
theorem m_mend (l : Launch) (g : ma_G) (x : Bool) {h : ma_H} (hp : pt_ok h) (hf : fd_ok h) {M : Nat → Bool} (h1 : az h 165 16 M) {c : Nat → Nat} (hc : ∀ s, s < 16 → c s < 256) (h2 : ar h 164 16 c) : ma_PM l g x me_Col_mend [.ref 163] GS h (fun v S' h' => S' = GS ∧ on h h' [164, 165, 166, 167, 168, 169, 170, 171] ∧ ((v = some (.int (nI 1)) ∧ ∃ w, gf_md c M w ∧ ar h' 164 16 w) ∨ (v = some (.int (nI 0)) ∧ ∀ w, ¬ gf_md c M w))) := by
  refine ma_PM_of (P := pr_Col_mend) (by decide) rfl (Nat.le_of_ble_eq_true rfl) ?_
  show ma_J l g x none me_Col_mend pr_Col_mend _ 0 [some (.ref 163), none, none, none] [] 0 0 GS h
  generalize hQ : (fun (v : Option Value) (S' : ma_S) (h' : ma_H) => S' = GS ∧ on h h' [164, 165, 166, 167, 168, 169, 170, 171] ∧ ((v = some (.int (nI 1)) ∧ ∃ w, gf_md c M w ∧ ar h' 164 16 w) ∨ (v = some (.int (nI 0)) ∧ ∀ w, ¬ gf_md c M w))) = Q
  have hn16 : ∀ p : Nat → Bool, ∀ n, gf_cn n p ≤ n := by
    intro p n
    induction n with
    | zero => exact Nat.le_refl _
    | succ n ih => rw [gf_cn]; split <;> omega
  have hM16 := hn16 M 16
  refine ma_run0 po_Col_mend rfl rfl [] 60 ?_
  simp only [pa_Col_mend, ma_go, ev_A, ev_B, ev_C, ev_D, Nat.reduceAdd, List.mem_cons, List.not_mem_nil, or_false, or_true, true_or, false_or, or_self, Nat.reduceEqDiff, reduceCtorEq, ↓reduceIte, List.length_cons, List.length_nil, Nat.reduceLT, Nat.reduceLeDiff, Nat.le_refl, implies_true, true_and, and_true, Option.toList, List.cons_append, List.nil_append, gs_163]
  refine ma_callD mt_Col_countUnknown rfl rfl (Nat.le_of_ble_eq_true rfl) (Nat.le_refl _) (Nat.le_refl _) (m_countUnknown l g x hp h1) ?_
  simp only [pa_Col_mend, ma_go, ev_A, ev_B, ev_C, ev_D, Nat.reduceAdd, List.mem_cons, List.not_mem_nil, or_false, or_true, true_or, false_or, or_self, Nat.reduceEqDiff, reduceCtorEq, ↓reduceIte, List.length_cons, List.length_nil, Nat.reduceLT, Nat.reduceLeDiff, Nat.le_refl, implies_true, true_and, and_true, Option.toList, List.cons_append, List.nil_append, gs_163]
  refine ⟨fun q => ?_, fun q => ?_⟩
  · have hM6 := (nI_leI (by omega) (by omega)).mp q
    refine ma_callP mt_Col_addUp rfl rfl (Nat.le_of_ble_eq_true rfl) (Nat.le_refl _) (Nat.le_refl _) (m_addUp l g x hp hf hc h2) ?_
    intro v S' h3 hpost
    obtain ⟨rfl, rfl, ho3, ha3⟩ := hpost
    have o3 := on_mo (L' := [164, 165, 166, 167, 168, 169, 170, 171]) ho3 (by simp)
    simp only [pa_Col_mend, ma_go, ev_A, ev_B, ev_C, ev_D, Nat.reduceAdd, List.mem_cons, List.not_mem_nil, or_false, or_true, true_or, false_or, or_self, Nat.reduceEqDiff, reduceCtorEq, ↓reduceIte, List.length_cons, List.length_nil, Nat.reduceLT, Nat.reduceLeDiff, Nat.le_refl, implies_true, true_and, and_true, Option.toList, List.cons_append, List.nil_append, gs_163]
    rw [nx_sub' hM6]
    refine ma_callP mt_Col_siftOutUnknown rfl rfl (Nat.le_of_ble_eq_true rfl) (Nat.le_refl _) (Nat.le_refl _) (m_siftOutUnknown l g x (on_pt o3 hp) (fd_on o3 (by decide) (by decide) hf) (az_on ho3 (by decide) h1) hM6 (gf_sy_lt c) ha3) ?_
    intro v S' h4 hpost
    obtain ⟨rfl, rfl, ho4, ha4⟩ := hpost
    have o4 := on_tr o3 (on_mo (L' := [164, 165, 166, 167, 168, 169, 170, 171]) ho4 (by simp))
    simp only [pa_Col_mend, ma_go, ev_A, ev_B, ev_C, ev_D, Nat.reduceAdd, List.mem_cons, List.not_mem_nil, or_false, or_true, true_or, false_or, or_self, Nat.reduceEqDiff, reduceCtorEq, ↓reduceIte, List.length_cons, List.length_nil, Nat.reduceLT, Nat.reduceLeDiff, Nat.le_refl, implies_true, true_and, and_true, Option.toList, List.cons_append, List.nil_append, gs_163]
    refine ma_callP mt_Col_findRecurrence rfl rfl (Nat.le_of_ble_eq_true rfl) (Nat.le_refl _) (Nat.le_refl _) (m_findRecurrence l g x (on_pt o4 hp) (fd_on o4 (by decide) (by decide) hf) (gf_dl_lt _ (gf_sy_lt c)) (by omega) ha4) ?_
    intro v S' h5 hpost
    obtain ⟨C, B, L, m, b, rfl, rfl, ho5, hbm, ha5⟩ := hpost
    have o5 := on_tr o4 (on_mo (L' := [164, 165, 166, 167, 168, 169, 170, 171]) ho5 (by simp))
    have z5 := az_on ho5 (by decide) (az_on ho4 (by decide) (az_on ho3 (by decide) h1))
    have hL6 : L ≤ 6 - gf_cn 16 M := hbm.1.2.2.2.2.1
    simp only [pa_Col_mend, ma_go, ev_A, ev_B, ev_C, ev_D, Nat.reduceAdd, List.mem_cons, List.not_mem_nil, or_false, or_true, true_or, false_or, or_self, Nat.reduceEqDiff, reduceCtorEq, ↓reduceIte, List.length_cons, List.length_nil, Nat.reduceLT, Nat.reduceLeDiff, Nat.le_refl, implies_true, true_and, and_true, Option.toList, List.cons_append, List.nil_append, gs_163]
    rw [pk_mul]
    refine ⟨fun q2 => ?_, fun q2 => ?_⟩
    · have hgt := (nI_ltI (by omega) (by omega)).mp q2
      rw [← hQ]
      exact ⟨rfl, o5, Or.inr ⟨rfl, fun w hw => by have := (gf_mendB hc hbm hw).1; omega⟩⟩
    · have hle : 2 * L ≤ 6 - gf_cn 16 M := Nat.le_of_not_lt (fun z => q2 (nI_lt z (by omega)))
      refine ma_callP mt_Col_markWrong rfl rfl (Nat.le_of_ble_eq_true rfl) (Nat.le_refl _) (Nat.le_refl _) (m_markWrong l g x (on_pt o5 hp) (fd_on o5 (by decide) (by decide) hf) z5 hbm.1.2.1 ha5 (by omega)) ?_
      intro v S' h6 hpost
      obtain ⟨rfl, rfl, ho6, ha6⟩ := hpost
      have o6 := on_tr o5 (on_mo (L' := [164, 165, 166, 167, 168, 169, 170, 171]) ho6 (by simp))
      have hr16 := hn16 (fun s => !M s && (gf_ho C L (gf_ex s) == 0)) 16
      simp only [pa_Col_mend, ma_go, ev_A, ev_B, ev_C, ev_D, Nat.reduceAdd, List.mem_cons, List.not_mem_nil, or_false, or_true, true_or, false_or, or_self, Nat.reduceEqDiff, reduceCtorEq, ↓reduceIte, List.length_cons, List.length_nil, Nat.reduceLT, Nat.reduceLeDiff, Nat.le_refl, implies_true, true_and, and_true, Option.toList, List.cons_append, List.nil_append, gs_163]
      refine ⟨fun q3 => ?_, fun q3 => ?_⟩
      · have hr := (nI_eq (by omega) (by omega)).mp q3
        have hU : gf_cn 16 (gf_mk M C L) ≤ 6 := by
          have := gf_cn_split 16 M (fun s => gf_ho C L (gf_ex s) == 0)
          show gf_cn 16 (fun s => M s || (gf_ho C L (gf_ex s) == 0)) ≤ 6
          omega
        have a6 := ar_on ho6 (by decide) (ar_on ho5 (by decide) (ar_on ho4 (by decide) (ar_on ho3 (by decide) h2)))
        have b6 := ar_on ho6 (by decide) (ar_on ho5 (by decide) (ar_on ho4 (by decide) ha3))
        refine ma_callP mt_Col_fillUnknown rfl rfl (Nat.le_of_ble_eq_true rfl) (Nat.le_refl _) (Nat.le_refl _) (m_fillUnknown l g x (on_pt o6 hp) (fd_on o6 (by decide) (by decide) hf) ha6 hU hc a6 b6) ?_
        intro v S' h7 hpost
        obtain ⟨rfl, rfl, ho7, ha7⟩ := hpost
        simp only [pa_Col_mend, ma_go, ev_A, ev_B, ev_C, ev_D, Nat.reduceAdd, List.mem_cons, List.not_mem_nil, or_false, or_true, true_or, false_or, or_self, Nat.reduceEqDiff, reduceCtorEq, ↓reduceIte, List.length_cons, List.length_nil, Nat.reduceLT, Nat.reduceLeDiff, Nat.le_refl, implies_true, true_and, and_true, Option.toList, List.cons_append, List.nil_append]
        rw [← hQ]
        exact ⟨rfl, on_tr o6 (on_mo ho7 (by simp)), Or.inl ⟨rfl, _, gf_mendA hc hM6 hbm hle hr, ha7⟩⟩
      · rw [← hQ]
        exact ⟨rfl, o6, Or.inr ⟨rfl, fun w hw => q3 (by rw [(gf_mendB hc hbm hw).2])⟩⟩
  · have hgt : 6 < gf_cn 16 M := Nat.lt_of_not_le (fun z => q (nI_le z (by omega)))
    rw [← hQ]
    exact ⟨rfl, on_rf h _, Or.inr ⟨rfl, fun w hw => by have := hw.2.2; omega⟩⟩
