/-! the class's Reader: the near words -/
def rsP (o : Option (Nat → Nat)) (v : Option Value) (w' : Nat → Nat) : Prop := (v = some (.int (nI 1)) ∧ ∃ w, o = some w ∧ ∀ k, k < 33 → w' k = w k) ∨ (v = some (.int (nI 0)) ∧ o = none)
theorem zb01 (b : Bool) : nI (zb b) = nI 0 ∨ nI (zb b) = nI 1 := by cases b <;> simp [zb]
theorem rw_nb {a : Nat} (ha : isr a) : a ∉ [177, 178] := by rcases ha with ha | ha <;> simp <;> omega
theorem bd_wf_up {w v : Nat → Nat} {i c : Nat} (h : ∀ k, k < 33 → v k = up w i c k) (hw : wf w) (hc : c < 4) : wf v := fun k hk => by rw [h k hk]; exact up_wf hw hc k hk
theorem wf_congr {w v : Nat → Nat} (h : ∀ k, k < 33 → w k = v k) (hw : wf w) : wf v := fun k hk => by rw [← h k hk]; exact hw k hk
/-- the first i letters out of f, then those of w -/
def mx (f w : Nat → Nat) (i : Nat) : Nat → Nat := fun k => if k < i then f k else w k
theorem mx_up (f w : Nat → Nat) (i k : Nat) : up (mx f w i) i (f i) k = mx f w (i + 1) k := by
  unfold up mx
  by_cases e : k = i
  · rw [if_pos e, if_pos (by omega), e]
  · rw [if_neg e]
    by_cases h : k < i
    · rw [if_pos h, if_pos (by omega)]
    · rw [if_neg h, if_neg (by omega)]
section
variable (l : Launch) (g : ma_G) (x : Bool) {h : ma_H} {a n : Nat} {f w0 : Nat → Nat}
theorem m_restoreWhole (hp : pt_ok h) (ha : isr a) (hr : rf h a n f) (hn : n = 45) (hw : wf w0) (hb : bd h 177 w0) {s G : Nat} (hs : s < 4) (hG : G < 33) (e1 : h.1 176 1 = nI s) (e2 : h.1 176 2 = nI G) : ma_PM l g x me_Rdr_restoreWhole [.ref 176, .ref a] GS h (fun v S' h' => S' = GS ∧ on h h' [177, 178] ∧ ∃ w', wf w' ∧ bd h' 177 w' ∧ rsP (if okb f s G = true then some f else none) v w') := by
  refine ma_PM_of (P := pr_Rdr_restoreWhole) (by decide) rfl (Nat.le_of_ble_eq_true rfl) ?_
  show ma_J l g x none me_Rdr_restoreWhole pr_Rdr_restoreWhole _ 0 [some (.ref 176), some (.ref a), none] [] 0 0 GS h
  generalize hQ : (fun (v : Option Value) (S' : ma_S) (h' : ma_H) => S' = GS ∧ on h h' [177, 178] ∧ ∃ w', wf w' ∧ bd h' 177 w' ∧ rsP (if okb f s G = true then some f else none) v w') = Q
  have loop : ∀ m i h', i + m = 33 → on h h' [177, 178] → wf (mx f w0 i) → bd h' 177 (mx f w0 i) → ma_J l g x none me_Rdr_restoreWhole pr_Rdr_restoreWhole Q 2 [some (.ref 176), some (.ref a), some (.int (nI i))] [] 0 0 GS h' := by
    intro m
    induction m with
    | zero =>
      intro i h' hi ho hw hb
      have e : i = 33 := by omega
      subst e
      have hp' := on_pt ho hp
      refine ma_run0 po_Rdr_restoreWhole rfl rfl [2] 60 ?_
      simp only [pa_Rdr_restoreWhole, ma_go, ev_A, ev_B, ev_C, ev_D, Nat.reduceAdd, List.mem_cons, List.not_mem_nil, or_false, or_true, true_or, false_or, or_self, Nat.reduceEqDiff, reduceCtorEq, ↓reduceIte, List.length_cons, List.length_nil, Nat.reduceLT, Nat.reduceLeDiff, Nat.le_refl, implies_true, true_and, and_true, Option.toList, List.cons_append, List.nil_append, gs_176, pt_Rdr hp', gs_177]
      refine ⟨fun _ => ?_, fun q => absurd (nI_le (Nat.le_refl _) (by omega)) q⟩
      refine ma_callD mt_Rdr_isDue rfl rfl (Nat.le_of_ble_eq_true rfl) (Nat.le_refl _) (Nat.le_refl _) (m_isDue l g x hp' hw hb hs hG (by rw [ho.2 176 (by decide)]; exact e1) (by rw [ho.2 176 (by decide)]; exact e2)) ?_
      simp only [pa_Rdr_restoreWhole, ma_go, ev_A, ev_B, ev_C, ev_D, Nat.reduceAdd, List.mem_cons, List.not_mem_nil, or_false, or_true, true_or, false_or, or_self, Nat.reduceEqDiff, reduceCtorEq, ↓reduceIte, List.length_cons, List.length_nil, Nat.reduceLT, Nat.reduceLeDiff, Nat.le_refl, implies_true, true_and, and_true, Option.toList, List.cons_append, List.nil_append]
      rw [← hQ]
      refine ⟨zb01 _, rfl, ho, _, hw, hb, ?_⟩
      have e4 : ∀ k, k < 33 → mx f w0 33 k = f k := fun k hk => if_pos hk
      rw [okb_congr e4]
      cases okb f s G
      · exact Or.inr ⟨rfl, rfl⟩
      · exact Or.inl ⟨rfl, f, rfl, e4⟩
    | succ m ih =>
      intro i h' hi ho hw hb
      have hp' := on_pt ho hp
      have hr' := rf_onr (onr_on ho) (rw_nb ha) hr
      refine ma_run0 po_Rdr_restoreWhole rfl rfl [2] 60 ?_
      simp only [pa_Rdr_restoreWhole, ma_go, ev_A, ev_B, ev_C, ev_D, Nat.reduceAdd, List.mem_cons, List.not_mem_nil, or_false, or_true, true_or, false_or, or_self, Nat.reduceEqDiff, reduceCtorEq, ↓reduceIte, List.length_cons, List.length_nil, Nat.reduceLT, Nat.reduceLeDiff, Nat.le_refl, implies_true, true_and, and_true, Option.toList, List.cons_append, List.nil_append, gs_176, pt_Rdr hp', gs_177, gs_row ha]
      refine ⟨fun q => absurd q (nI_ge (by omega) (by omega)), fun _ => ?_⟩
      refine ma_callD mt_Row_at rfl rfl (Nat.le_of_ble_eq_true rfl) (Nat.le_refl _) (Nat.le_refl _) (m_atf l g x ha hr' (by omega) (show i < n by omega)) ?_
      simp only [pa_Rdr_restoreWhole, ma_go, ev_A, ev_B, ev_C, ev_D, Nat.reduceAdd, List.mem_cons, List.not_mem_nil, or_false, or_true, true_or, false_or, or_self, Nat.reduceEqDiff, reduceCtorEq, ↓reduceIte, List.length_cons, List.length_nil, Nat.reduceLT, Nat.reduceLeDiff, Nat.le_refl, implies_true, true_and, and_true, Option.toList, List.cons_append, List.nil_append, gs_177]
      have hl := rf_lt hr (show i < n by omega)
      refine ma_callP mt_Bod_put rfl rfl (Nat.le_of_ble_eq_true rfl) (Nat.le_refl _) (Nat.le_refl _) (m_put l g x hp' hw (Or.inr rfl) hb (show i < 33 by omega) hl) ?_
      intro v S' h2 hpost
      obtain ⟨rfl, rfl, o2, b2⟩ := hpost
      simp only [pa_Rdr_restoreWhole, ma_go, ev_A, ev_B, ev_C, ev_D, Nat.reduceAdd, List.mem_cons, List.not_mem_nil, or_false, or_true, true_or, false_or, or_self, Nat.reduceEqDiff, reduceCtorEq, ↓reduceIte, List.length_cons, List.length_nil, Nat.reduceLT, Nat.reduceLeDiff, Nat.le_refl, implies_true, true_and, and_true, Option.toList, List.cons_append, List.nil_append]
      rw [nx_1]
      exact ih (i + 1) h2 (by omega) (on_tr ho o2) (wf_congr (fun k _ => mx_up f w0 i k) (up_wf hw hl)) (bd_congr (fun k _ => mx_up f w0 i k) b2)
  refine ma_run0 po_Rdr_restoreWhole rfl rfl [2] 60 ?_
  simp only [pa_Rdr_restoreWhole, ma_go, ev_A, ev_B, ev_C, ev_D, Nat.reduceAdd, List.mem_cons, List.not_mem_nil, or_false, or_true, true_or, false_or, or_self, Nat.reduceEqDiff, reduceCtorEq, ↓reduceIte, List.length_cons, List.length_nil, Nat.reduceLT, Nat.reduceLeDiff, Nat.le_refl, implies_true, true_and, and_true, Option.toList, List.cons_append, List.nil_append]
  exact loop 33 0 h (by omega) (on_rf h _) (wf_congr (fun k _ => (if_neg (by omega)).symm) hw) (bd_congr (fun k _ => (if_neg (by omega)).symm) hb)
theorem gr_up (f : Nat → Nat) (i k : Nat) : up (gr f i) i (f i) k = gr f (i + 1) k := by
  unfold up gr
  by_cases e : k = i
  · rw [if_pos e, if_pos (by omega), e]
  · rw [if_neg e]
    by_cases h : k < i
    · rw [if_pos h, if_pos (by omega)]
    · rw [if_neg h, if_neg (by omega)]
theorem m_restoreGrown (hp : pt_ok h) (ha : isr a) (hr : rf h a n f) (hn : n = 46) (hw : wf w0) (hb : bd h 177 w0) {s G : Nat} (hs : s < 4) (hG : G < 33) (e1 : h.1 176 1 = nI s) (e2 : h.1 176 2 = nI G) : ma_PM l g x me_Rdr_restoreGrown [.ref 176, .ref a] GS h (fun v S' h' => S' = GS ∧ on h h' [177, 178] ∧ ∃ w', wf w' ∧ bd h' 177 w' ∧ rsP ((fi (fun i => okb (gr f i) s G) 34).map (gr f)) v w') := by
  refine ma_PM_of (P := pr_Rdr_restoreGrown) (by decide) rfl (Nat.le_of_ble_eq_true rfl) ?_
  show ma_J l g x none me_Rdr_restoreGrown pr_Rdr_restoreGrown _ 0 [some (.ref 176), some (.ref a), none] [] 0 0 GS h
  generalize hQ : (fun (v : Option Value) (S' : ma_S) (h' : ma_H) => S' = GS ∧ on h h' [177, 178] ∧ ∃ w', wf w' ∧ bd h' 177 w' ∧ rsP ((fi (fun i => okb (gr f i) s G) 34).map (gr f)) v w') = Q
  have tail : ∀ i h', i ≤ 33 → on h h' [177, 178] → wf (gr f i) → bd h' 177 (gr f i) → (∀ j, j < i → okb (gr f j) s G = false) → (i = 33 ∨ okb (gr f i) s G = true) → ma_J l g x none me_Rdr_restoreGrown pr_Rdr_restoreGrown Q 33 [some (.ref 176), some (.ref a), some (.int (nI i))] [] 0 0 GS h' := by
    intro i h' hi ho hw hb hno hor
    have hp' := on_pt ho hp
    refine ma_run0 po_Rdr_restoreGrown rfl rfl [2] 60 ?_
    simp only [pa_Rdr_restoreGrown, ma_go, ev_A, ev_B, ev_C, ev_D, Nat.reduceAdd, List.mem_cons, List.not_mem_nil, or_false, or_true, true_or, false_or, or_self, Nat.reduceEqDiff, reduceCtorEq, ↓reduceIte, List.length_cons, List.length_nil, Nat.reduceLT, Nat.reduceLeDiff, Nat.le_refl, implies_true, true_and, and_true, Option.toList, List.cons_append, List.nil_append, gs_176, pt_Rdr hp', gs_177]
    refine ma_callD mt_Rdr_isDue rfl rfl (Nat.le_of_ble_eq_true rfl) (Nat.le_refl _) (Nat.le_refl _) (m_isDue l g x hp' hw hb hs hG (by rw [ho.2 176 (by decide)]; exact e1) (by rw [ho.2 176 (by decide)]; exact e2)) ?_
    simp only [pa_Rdr_restoreGrown, ma_go, ev_A, ev_B, ev_C, ev_D, Nat.reduceAdd, List.mem_cons, List.not_mem_nil, or_false, or_true, true_or, false_or, or_self, Nat.reduceEqDiff, reduceCtorEq, ↓reduceIte, List.length_cons, List.length_nil, Nat.reduceLT, Nat.reduceLeDiff, Nat.le_refl, implies_true, true_and, and_true, Option.toList, List.cons_append, List.nil_append]
    rw [← hQ]
    refine ⟨zb01 _, rfl, ho, _, hw, hb, ?_⟩
    cases ho2 : okb (gr f i) s G
    · have i33 : i = 33 := hor.resolve_right (by rw [ho2]; simp)
      rw [fi_no (fun j hj => by by_cases e : j = i; (rw [e]; exact ho2); (exact hno j (by omega)))]
      exact Or.inr ⟨rfl, rfl⟩
    · rw [fi_at (P := fun i => okb (gr f i) s G) hno ho2 (show i < 34 by omega)]
      exact Or.inl ⟨rfl, _, rfl, fun _ _ => rfl⟩
  have second : ∀ m i h', i + m = 33 → on h h' [177, 178] → wf (gr f i) → bd h' 177 (gr f i) → (∀ j, j < i → okb (gr f j) s G = false) → ma_J l g x none me_Rdr_restoreGrown pr_Rdr_restoreGrown Q 18 [some (.ref 176), some (.ref a), some (.int (nI i))] [] 0 0 GS h' := by
    intro m
    induction m with
    | zero =>
      intro i h' hi ho hw hb hno
      have e : i = 33 := by omega
      have hp' := on_pt ho hp
      have t := tail i h' (by omega) ho hw hb hno (Or.inl e)
      subst e
      refine ma_run0 po_Rdr_restoreGrown rfl rfl [18, 33] 60 ?_
      simp only [pa_Rdr_restoreGrown, ma_go, ev_A, ev_B, ev_C, ev_D, Nat.reduceAdd, List.mem_cons, List.not_mem_nil, or_false, or_true, true_or, false_or, or_self, Nat.reduceEqDiff, reduceCtorEq, ↓reduceIte, List.length_cons, List.length_nil, Nat.reduceLT, Nat.reduceLeDiff, Nat.le_refl, implies_true, true_and, and_true, Option.toList, List.cons_append, List.nil_append, gs_176, pt_Rdr hp', gs_177]
      exact ⟨fun _ => t, fun q => absurd (nI_le (Nat.le_refl _) (by omega)) q⟩
    | succ m ih =>
      intro i h' hi ho hw hb hno
      have hp' := on_pt ho hp
      have hr' := rf_onr (onr_on ho) (rw_nb ha) hr
      refine ma_run0 po_Rdr_restoreGrown rfl rfl [18, 33] 60 ?_
      simp only [pa_Rdr_restoreGrown, ma_go, ev_A, ev_B, ev_C, ev_D, Nat.reduceAdd, List.mem_cons, List.not_mem_nil, or_false, or_true, true_or, false_or, or_self, Nat.reduceEqDiff, reduceCtorEq, ↓reduceIte, List.length_cons, List.length_nil, Nat.reduceLT, Nat.reduceLeDiff, Nat.le_refl, implies_true, true_and, and_true, Option.toList, List.cons_append, List.nil_append, gs_176, pt_Rdr hp', gs_177]
      refine ⟨fun q => absurd q (nI_ge (by omega) (by omega)), fun _ => ?_⟩
      refine ma_callD mt_Rdr_isDue rfl rfl (Nat.le_of_ble_eq_true rfl) (Nat.le_refl _) (Nat.le_refl _) (m_isDue l g x hp' hw hb hs hG (by rw [ho.2 176 (by decide)]; exact e1) (by rw [ho.2 176 (by decide)]; exact e2)) ?_
      simp only [pa_Rdr_restoreGrown, ma_go, ev_A, ev_B, ev_C, ev_D, Nat.reduceAdd, List.mem_cons, List.not_mem_nil, or_false, or_true, true_or, false_or, or_self, Nat.reduceEqDiff, reduceCtorEq, ↓reduceIte, List.length_cons, List.length_nil, Nat.reduceLT, Nat.reduceLeDiff, Nat.le_refl, implies_true, true_and, and_true, Option.toList, List.cons_append, List.nil_append, gs_176, pt_Rdr hp', gs_177, gs_row ha]
      cases ho2 : okb (gr f i) s G
      · refine ⟨fun q => absurd rfl q, fun _ => ?_⟩
        refine ma_callD mt_Row_at rfl rfl (Nat.le_of_ble_eq_true rfl) (Nat.le_refl _) (Nat.le_refl _) (m_atf l g x ha hr' (by omega) (show i < n by omega)) ?_
        simp only [pa_Rdr_restoreGrown, ma_go, ev_A, ev_B, ev_C, ev_D, Nat.reduceAdd, List.mem_cons, List.not_mem_nil, or_false, or_true, true_or, false_or, or_self, Nat.reduceEqDiff, reduceCtorEq, ↓reduceIte, List.length_cons, List.length_nil, Nat.reduceLT, Nat.reduceLeDiff, Nat.le_refl, implies_true, true_and, and_true, Option.toList, List.cons_append, List.nil_append, gs_177]
        have hl := rf_lt hr (show i < n by omega)
        refine ma_callP mt_Bod_put rfl rfl (Nat.le_of_ble_eq_true rfl) (Nat.le_refl _) (Nat.le_refl _) (m_put l g x hp' hw (Or.inr rfl) hb (show i < 33 by omega) hl) ?_
        intro v S' h2 hpost
        obtain ⟨rfl, rfl, o2, b2⟩ := hpost
        simp only [pa_Rdr_restoreGrown, ma_go, ev_A, ev_B, ev_C, ev_D, Nat.reduceAdd, List.mem_cons, List.not_mem_nil, or_false, or_true, true_or, false_or, or_self, Nat.reduceEqDiff, reduceCtorEq, ↓reduceIte, List.length_cons, List.length_nil, Nat.reduceLT, Nat.reduceLeDiff, Nat.le_refl, implies_true, true_and, and_true, Option.toList, List.cons_append, List.nil_append]
        rw [nx_1]
        exact ih (i + 1) h2 (by omega) (on_tr ho o2) (wf_congr (fun k _ => gr_up f i k) (up_wf hw hl)) (bd_congr (fun k _ => gr_up f i k) b2) (fun j hj => by by_cases e : j = i; (rw [e]; exact ho2); (exact hno j (by omega)))
      · exact ⟨fun _ => tail i h' (by omega) ho hw hb hno (Or.inr ho2), fun q => absurd q (by decide +kernel)⟩
  have loop : ∀ m i h', i + m = 33 → on h h' [177, 178] → wf (mx (fun k => f (k + 1)) w0 i) → bd h' 177 (mx (fun k => f (k + 1)) w0 i) → ma_J l g x none me_Rdr_restoreGrown pr_Rdr_restoreGrown Q 2 [some (.ref 176), some (.ref a), some (.int (nI i))] [] 0 0 GS h' := by
    intro m
    induction m with
    | zero =>
      intro i h' hi ho hw hb
      have e : i = 33 := by omega
      subst e
      refine ma_run0 po_Rdr_restoreGrown rfl rfl [2, 18] 60 ?_
      simp only [pa_Rdr_restoreGrown, ma_go, ev_A, ev_B, ev_C, ev_D, Nat.reduceAdd, List.mem_cons, List.not_mem_nil, or_false, or_true, true_or, false_or, or_self, Nat.reduceEqDiff, reduceCtorEq, ↓reduceIte, List.length_cons, List.length_nil, Nat.reduceLT, Nat.reduceLeDiff, Nat.le_refl, implies_true, true_and, and_true, Option.toList, List.cons_append, List.nil_append]
      have e4 : ∀ k, k < 33 → mx (fun k => f (k + 1)) w0 33 k = gr f 0 k := fun k hk => by
        unfold mx gr
        rw [if_pos hk, if_neg (by omega)]
      exact ⟨fun _ => second 33 0 h' (by omega) ho (wf_congr e4 hw) (bd_congr e4 hb) (fun j hj => by omega), fun q => absurd (nI_le (Nat.le_refl _) (by omega)) q⟩
    | succ m ih =>
      intro i h' hi ho hw hb
      have hp' := on_pt ho hp
      have hr' := rf_onr (onr_on ho) (rw_nb ha) hr
      refine ma_run0 po_Rdr_restoreGrown rfl rfl [2, 18] 60 ?_
      simp only [pa_Rdr_restoreGrown, ma_go, ev_A, ev_B, ev_C, ev_D, Nat.reduceAdd, List.mem_cons, List.not_mem_nil, or_false, or_true, true_or, false_or, or_self, Nat.reduceEqDiff, reduceCtorEq, ↓reduceIte, List.length_cons, List.length_nil, Nat.reduceLT, Nat.reduceLeDiff, Nat.le_refl, implies_true, true_and, and_true, Option.toList, List.cons_append, List.nil_append, gs_176, pt_Rdr hp', gs_177, gs_row ha]
      refine ⟨fun q => absurd q (nI_ge (by omega) (by omega)), fun _ => ?_⟩
      rw [nx_1]
      refine ma_callD mt_Row_at rfl rfl (Nat.le_of_ble_eq_true rfl) (Nat.le_refl _) (Nat.le_refl _) (m_atf l g x ha hr' (by omega) (show i + 1 < n by omega)) ?_
      simp only [pa_Rdr_restoreGrown, ma_go, ev_A, ev_B, ev_C, ev_D, Nat.reduceAdd, List.mem_cons, List.not_mem_nil, or_false, or_true, true_or, false_or, or_self, Nat.reduceEqDiff, reduceCtorEq, ↓reduceIte, List.length_cons, List.length_nil, Nat.reduceLT, Nat.reduceLeDiff, Nat.le_refl, implies_true, true_and, and_true, Option.toList, List.cons_append, List.nil_append, gs_177]
      have hl := rf_lt hr (show i + 1 < n by omega)
      refine ma_callP mt_Bod_put rfl rfl (Nat.le_of_ble_eq_true rfl) (Nat.le_refl _) (Nat.le_refl _) (m_put l g x hp' hw (Or.inr rfl) hb (show i < 33 by omega) hl) ?_
      intro v S' h2 hpost
      obtain ⟨rfl, rfl, o2, b2⟩ := hpost
      simp only [pa_Rdr_restoreGrown, ma_go, ev_A, ev_B, ev_C, ev_D, Nat.reduceAdd, List.mem_cons, List.not_mem_nil, or_false, or_true, true_or, false_or, or_self, Nat.reduceEqDiff, reduceCtorEq, ↓reduceIte, List.length_cons, List.length_nil, Nat.reduceLT, Nat.reduceLeDiff, Nat.le_refl, implies_true, true_and, and_true, Option.toList, List.cons_append, List.nil_append]
      rw [nx_1]
      exact ih (i + 1) h2 (by omega) (on_tr ho o2) (wf_congr (fun k _ => mx_up (fun k => f (k + 1)) w0 i k) (up_wf hw hl)) (bd_congr (fun k _ => mx_up (fun k => f (k + 1)) w0 i k) b2)
  refine ma_run0 po_Rdr_restoreGrown rfl rfl [2] 60 ?_
  simp only [pa_Rdr_restoreGrown, ma_go, ev_A, ev_B, ev_C, ev_D, Nat.reduceAdd, List.mem_cons, List.not_mem_nil, or_false, or_true, true_or, false_or, or_self, Nat.reduceEqDiff, reduceCtorEq, ↓reduceIte, List.length_cons, List.length_nil, Nat.reduceLT, Nat.reduceLeDiff, Nat.le_refl, implies_true, true_and, and_true, Option.toList, List.cons_append, List.nil_append]
  exact loop 33 0 h (by omega) (on_rf h _) (wf_congr (fun k _ => (if_neg (by omega)).symm) hw) (bd_congr (fun k _ => (if_neg (by omega)).symm) hb)
/-- the letters of f one place later, up to i -/
def mc (f w : Nat → Nat) (i : Nat) : Nat → Nat := fun k => if k ≠ 0 ∧ k < i then f (k - 1) else w k
theorem mc_up (f w : Nat → Nat) {i : Nat} (h1 : 1 ≤ i) (k : Nat) : up (mc f w i) i (f (i - 1)) k = mc f w (i + 1) k := by
  unfold up mc
  by_cases e : k = i
  · rw [if_pos e, if_pos (by omega), e]
  · rw [if_neg e]
    by_cases h : k ≠ 0 ∧ k < i
    · rw [if_pos h, if_pos (by omega)]
    · rw [if_neg h, if_neg (by omega)]
theorem ct_up (f : Nat → Nat) (i c k : Nat) : up (up (ct f i c) i (f i)) (i + 1) c k = ct f (i + 1) c k := by
  unfold up ct
  by_cases e : k = i + 1
  · rw [if_pos e, if_neg (by omega), if_pos e]
  · rw [if_neg e]
    by_cases e2 : k = i
    · rw [if_pos e2, if_pos (by omega), e2]
    · rw [if_neg e2]
      by_cases h : k < i
      · rw [if_pos h, if_pos (by omega)]
      · rw [if_neg h, if_neg e2, if_neg (show ¬ k < i + 1 by omega), if_neg e]
theorem m_restoreCut (hp : pt_ok h) (ha : isr a) (hr : rf h a n f) (hn : n = 44) (hw : wf w0) (hb : bd h 177 w0) {s G : Nat} (hs : s < 4) (hG : G < 33) (e1 : h.1 176 1 = nI s) (e2 : h.1 176 2 = nI G) : ma_PM l g x me_Rdr_restoreCut [.ref 176, .ref a] GS h (fun v S' h' => S' = GS ∧ on h h' [177, 178] ∧ ∃ w', wf w' ∧ bd h' 177 w' ∧ rsP ((fi (fun i => okb (ct f i (ml f s)) s G) 33).map (fun i => ct f i (ml f s))) v w') := by
  refine ma_PM_of (P := pr_Rdr_restoreCut) (by decide) rfl (Nat.le_of_ble_eq_true rfl) ?_
  show ma_J l g x none me_Rdr_restoreCut pr_Rdr_restoreCut _ 0 [some (.ref 176), some (.ref a), none, none, none] [] 0 0 GS h
  generalize hQ : (fun (v : Option Value) (S' : ma_S) (h' : ma_H) => S' = GS ∧ on h h' [177, 178] ∧ ∃ w', wf w' ∧ bd h' 177 w' ∧ rsP ((fi (fun i => okb (ct f i (ml f s)) s G) 33).map (fun i => ct f i (ml f s))) v w') = Q
  have hml : ml f s < 4 := Nat.mod_lt _ (by decide)
  have hsm := sm_le (f := f) (c := 3) 32 (fun i hi => by have := rf_lt hr (show i < n by omega); omega)
  have hmd : (s + 4 * 32 - sm 32 f) % 4 = ml f s := rfl
  generalize ml f s = c at hml hmd hQ
  have tail : ∀ i h', i ≤ 32 → on h h' [177, 178] → wf (ct f i c) → bd h' 177 (ct f i c) → (∀ j, j < i → okb (ct f j c) s G = false) → (i = 32 ∨ okb (ct f i c) s G = true) → ma_J l g x none me_Rdr_restoreCut pr_Rdr_restoreCut Q 60 [some (.ref 176), some (.ref a), none, none, none] [] 0 0 GS h' := by
    intro i h' hi ho hw hb hno hor
    have hp' := on_pt ho hp
    refine ma_run0 po_Rdr_restoreCut rfl rfl [4, 38] 60 ?_
    simp only [pa_Rdr_restoreCut, ma_go, ev_A, ev_B, ev_C, ev_D, Nat.reduceAdd, List.mem_cons, List.not_mem_nil, or_false, or_true, true_or, false_or, or_self, Nat.reduceEqDiff, reduceCtorEq, ↓reduceIte, List.length_cons, List.length_nil, Nat.reduceLT, Nat.reduceLeDiff, Nat.le_refl, implies_true, true_and, and_true, Option.toList, List.cons_append, List.nil_append, gs_176, pt_Rdr hp', gs_177]
    refine ma_callD mt_Rdr_isDue rfl rfl (Nat.le_of_ble_eq_true rfl) (Nat.le_refl _) (Nat.le_refl _) (m_isDue l g x hp' hw hb hs hG (by rw [ho.2 176 (by decide)]; exact e1) (by rw [ho.2 176 (by decide)]; exact e2)) ?_
    simp only [pa_Rdr_restoreCut, ma_go, ev_A, ev_B, ev_C, ev_D, Nat.reduceAdd, List.mem_cons, List.not_mem_nil, or_false, or_true, true_or, false_or, or_self, Nat.reduceEqDiff, reduceCtorEq, ↓reduceIte, List.length_cons, List.length_nil, Nat.reduceLT, Nat.reduceLeDiff, Nat.le_refl, implies_true, true_and, and_true, Option.toList, List.cons_append, List.nil_append]
    rw [← hQ]
    refine ⟨zb01 _, rfl, ho, _, hw, hb, ?_⟩
    cases ho2 : okb (ct f i c) s G
    · have i33 : i = 32 := hor.resolve_right (by rw [ho2]; simp)
      rw [fi_no (fun j hj => by by_cases e : j = i; (rw [e]; exact ho2); (exact hno j (by omega)))]
      exact Or.inr ⟨rfl, rfl⟩
    · rw [fi_at (P := fun i => okb (ct f i c) s G) hno ho2 (show i < 33 by omega)]
      exact Or.inl ⟨rfl, _, rfl, fun _ _ => rfl⟩
  have second : ∀ m i h', i + m = 32 → on h h' [177, 178] → wf (ct f i c) → bd h' 177 (ct f i c) → (∀ j, j < i → okb (ct f j c) s G = false) → ma_J l g x none me_Rdr_restoreCut pr_Rdr_restoreCut Q 38 [some (.ref 176), some (.ref a), none, some (.int (nI c)), some (.int (nI i))] [] 0 0 GS h' := by
    intro m
    induction m with
    | zero =>
      intro i h' hi ho hw hb hno
      have e : i = 32 := by omega
      have hp' := on_pt ho hp
      have t := tail i h' (by omega) ho hw hb hno (Or.inl e)
      subst e
      refine ma_run0 po_Rdr_restoreCut rfl rfl [38, 60] 60 ?_
      simp only [pa_Rdr_restoreCut, ma_go, ev_A, ev_B, ev_C, ev_D, Nat.reduceAdd, List.mem_cons, List.not_mem_nil, or_false, or_true, true_or, false_or, or_self, Nat.reduceEqDiff, reduceCtorEq, ↓reduceIte, List.length_cons, List.length_nil, Nat.reduceLT, Nat.reduceLeDiff, Nat.le_refl, implies_true, true_and, and_true, Option.toList, List.cons_append, List.nil_append, gs_176, pt_Rdr hp', gs_177]
      exact ⟨fun _ => ma_J.less t ⟨rfl, rfl, trivial⟩, fun q => absurd (nI_le (Nat.le_refl _) (by omega)) q⟩
    | succ m ih =>
      intro i h' hi ho hw hb hno
      have hp' := on_pt ho hp
      have hr' := rf_onr (onr_on ho) (rw_nb ha) hr
      refine ma_run0 po_Rdr_restoreCut rfl rfl [38, 60] 60 ?_
      simp only [pa_Rdr_restoreCut, ma_go, ev_A, ev_B, ev_C, ev_D, Nat.reduceAdd, List.mem_cons, List.not_mem_nil, or_false, or_true, true_or, false_or, or_self, Nat.reduceEqDiff, reduceCtorEq, ↓reduceIte, List.length_cons, List.length_nil, Nat.reduceLT, Nat.reduceLeDiff, Nat.le_refl, implies_true, true_and, and_true, Option.toList, List.cons_append, List.nil_append, gs_176, pt_Rdr hp', gs_177]
      refine ⟨fun q => absurd q (nI_ge (by omega) (by omega)), fun _ => ?_⟩
      refine ma_callD mt_Rdr_isDue rfl rfl (Nat.le_of_ble_eq_true rfl) (Nat.le_refl _) (Nat.le_refl _) (m_isDue l g x hp' hw hb hs hG (by rw [ho.2 176 (by decide)]; exact e1) (by rw [ho.2 176 (by decide)]; exact e2)) ?_
      simp only [pa_Rdr_restoreCut, ma_go, ev_A, ev_B, ev_C, ev_D, Nat.reduceAdd, List.mem_cons, List.not_mem_nil, or_false, or_true, true_or, false_or, or_self, Nat.reduceEqDiff, reduceCtorEq, ↓reduceIte, List.length_cons, List.length_nil, Nat.reduceLT, Nat.reduceLeDiff, Nat.le_refl, implies_true, true_and, and_true, Option.toList, List.cons_append, List.nil_append, gs_176, pt_Rdr hp', gs_177, gs_row ha]
      cases ho2 : okb (ct f i c) s G
      · refine ⟨fun q => absurd rfl q, fun _ => ?_⟩
        refine ma_callD mt_Row_at rfl rfl (Nat.le_of_ble_eq_true rfl) (Nat.le_refl _) (Nat.le_refl _) (m_atf l g x ha hr' (by omega) (show i < n by omega)) ?_
        simp only [pa_Rdr_restoreCut, ma_go, ev_A, ev_B, ev_C, ev_D, Nat.reduceAdd, List.mem_cons, List.not_mem_nil, or_false, or_true, true_or, false_or, or_self, Nat.reduceEqDiff, reduceCtorEq, ↓reduceIte, List.length_cons, List.length_nil, Nat.reduceLT, Nat.reduceLeDiff, Nat.le_refl, implies_true, true_and, and_true, Option.toList, List.cons_append, List.nil_append, gs_177]
        have hl := rf_lt hr (show i < n by omega)
        refine ma_callP mt_Bod_put rfl rfl (Nat.le_of_ble_eq_true rfl) (Nat.le_refl _) (Nat.le_refl _) (m_put l g x hp' hw (Or.inr rfl) hb (show i < 33 by omega) hl) ?_
        intro v S' h2 hpost
        obtain ⟨rfl, rfl, o2, b2⟩ := hpost
        have ho3 := on_tr ho o2
        simp only [pa_Rdr_restoreCut, ma_go, ev_A, ev_B, ev_C, ev_D, Nat.reduceAdd, List.mem_cons, List.not_mem_nil, or_false, or_true, true_or, false_or, or_self, Nat.reduceEqDiff, reduceCtorEq, ↓reduceIte, List.length_cons, List.length_nil, Nat.reduceLT, Nat.reduceLeDiff, Nat.le_refl, implies_true, true_and, and_true, Option.toList, List.cons_append, List.nil_append, gs_176, pt_Rdr (on_pt ho3 hp), gs_177]
        rw [nx_1]
        refine ma_callP mt_Bod_put rfl rfl (Nat.le_of_ble_eq_true rfl) (Nat.le_refl _) (Nat.le_refl _) (m_put l g x (on_pt ho3 hp) (up_wf hw hl) (Or.inr rfl) b2 (show i + 1 < 33 by omega) hml) ?_
        intro v S' h3 hpost
        obtain ⟨rfl, rfl, o3, b3⟩ := hpost
        simp only [pa_Rdr_restoreCut, ma_go, ev_A, ev_B, ev_C, ev_D, Nat.reduceAdd, List.mem_cons, List.not_mem_nil, or_false, or_true, true_or, false_or, or_self, Nat.reduceEqDiff, reduceCtorEq, ↓reduceIte, List.length_cons, List.length_nil, Nat.reduceLT, Nat.reduceLeDiff, Nat.le_refl, implies_true, true_and, and_true, Option.toList, List.cons_append, List.nil_append]
        rw [nx_1]
        exact ih (i + 1) h3 (by omega) (on_tr ho3 o3) (wf_congr (fun k _ => ct_up f i c k) (up_wf (up_wf hw hl) hml)) (bd_congr (fun k _ => ct_up f i c k) b3) (fun j hj => by by_cases e : j = i; (rw [e]; exact ho2); (exact hno j (by omega)))
      · exact ⟨fun _ => ma_J.less (tail i h' (by omega) ho hw hb hno (Or.inr ho2)) ⟨rfl, rfl, trivial⟩, fun q => absurd q (by decide +kernel)⟩
  have loop : ∀ m i h', i + m = 33 → 1 ≤ i → on h h' [177, 178] → wf (mc f w0 i) → bd h' 177 (mc f w0 i) → ma_J l g x none me_Rdr_restoreCut pr_Rdr_restoreCut Q 4 [some (.ref 176), some (.ref a), some (.int (nI (sm (i - 1) f))), some (.int (nI i)), none] [] 0 0 GS h' := by
    intro m
    induction m with
    | zero =>
      intro i h' hi _ ho hw hb
      have e : i = 33 := by omega
      subst e
      have hp' := on_pt ho hp
      refine ma_run0 po_Rdr_restoreCut rfl rfl [4, 38] 60 ?_
      simp only [pa_Rdr_restoreCut, ma_go, ev_A, ev_B, ev_C, ev_D, Nat.reduceAdd, List.mem_cons, List.not_mem_nil, or_false, or_true, true_or, false_or, or_self, Nat.reduceEqDiff, reduceCtorEq, ↓reduceIte, List.length_cons, List.length_nil, Nat.reduceLT, Nat.reduceLeDiff, Nat.le_refl, implies_true, true_and, and_true, Option.toList, List.cons_append, List.nil_append, gs_176, pt_Rdr hp', gs_177]
      refine ⟨fun _ => ?_, fun q => absurd (nI_le (Nat.le_refl _) (by omega)) q⟩
      rw [show h'.1 176 1 = nI s by rw [ho.2 176 (by decide)]; exact e1]
      refine ma_callD mt_Mth_floorMod rfl rfl (Nat.le_of_ble_eq_true rfl) (Nat.le_refl _) (Nat.le_refl _) (m_floorMod l g x hs (show sm (33 - 1) f < 97 from Nat.lt_of_le_of_lt hsm (by decide))) ?_
      simp only [pa_Rdr_restoreCut, ma_go, ev_A, ev_B, ev_C, ev_D, Nat.reduceAdd, List.mem_cons, List.not_mem_nil, or_false, or_true, true_or, false_or, or_self, Nat.reduceEqDiff, reduceCtorEq, ↓reduceIte, List.length_cons, List.length_nil, Nat.reduceLT, Nat.reduceLeDiff, Nat.le_refl, implies_true, true_and, and_true, Option.toList, List.cons_append, List.nil_append, gs_176, pt_Rdr hp', gs_177]
      rw [show (s + 4 * 32 - sm (33 - 1) f) % 4 = c from hmd]
      refine ma_callP mt_Bod_put rfl rfl (Nat.le_of_ble_eq_true rfl) (Nat.le_refl _) (Nat.le_refl _) (m_put l g x hp' hw (Or.inr rfl) hb (show 0 < 33 by omega) hml) ?_
      intro v S' h2 hpost
      obtain ⟨rfl, rfl, o2, b2⟩ := hpost
      simp only [pa_Rdr_restoreCut, ma_go, ev_A, ev_B, ev_C, ev_D, Nat.reduceAdd, List.mem_cons, List.not_mem_nil, or_false, or_true, true_or, false_or, or_self, Nat.reduceEqDiff, reduceCtorEq, ↓reduceIte, List.length_cons, List.length_nil, Nat.reduceLT, Nat.reduceLeDiff, Nat.le_refl, implies_true, true_and, and_true, Option.toList, List.cons_append, List.nil_append]
      have e4 : ∀ k, k < 33 → up (mc f w0 33) 0 c k = ct f 0 c k := fun k hk => by
        unfold up mc ct
        by_cases e : k = 0
        · rw [if_pos e, if_neg (by omega), if_pos e]
        · rw [if_neg e, if_pos ⟨e, hk⟩, if_neg (by omega), if_neg e]
      exact ma_J.less (second 32 0 h2 (by omega) (on_tr ho o2) (wf_congr e4 (up_wf hw hml)) (bd_congr e4 b2) (fun j hj => by omega)) ⟨rfl, rfl, rfl, rfl, trivial⟩
    | succ m ih =>
      intro i h' hi hi1 ho hw hb
      have hp' := on_pt ho hp
      have hr' := rf_onr (onr_on ho) (rw_nb ha) hr
      refine ma_run0 po_Rdr_restoreCut rfl rfl [4, 38] 60 ?_
      simp only [pa_Rdr_restoreCut, ma_go, ev_A, ev_B, ev_C, ev_D, Nat.reduceAdd, List.mem_cons, List.not_mem_nil, or_false, or_true, true_or, false_or, or_self, Nat.reduceEqDiff, reduceCtorEq, ↓reduceIte, List.length_cons, List.length_nil, Nat.reduceLT, Nat.reduceLeDiff, Nat.le_refl, implies_true, true_and, and_true, Option.toList, List.cons_append, List.nil_append, gs_176, pt_Rdr hp', gs_177, gs_row ha]
      refine ⟨fun q => absurd q (nI_ge (by omega) (by omega)), fun _ => ?_⟩
      rw [nx_sub' (by omega)]
      refine ma_callD mt_Row_at rfl rfl (Nat.le_of_ble_eq_true rfl) (Nat.le_refl _) (Nat.le_refl _) (m_atf l g x ha hr' (by omega) (show i - 1 < n by omega)) ?_
      simp only [pa_Rdr_restoreCut, ma_go, ev_A, ev_B, ev_C, ev_D, Nat.reduceAdd, List.mem_cons, List.not_mem_nil, or_false, or_true, true_or, false_or, or_self, Nat.reduceEqDiff, reduceCtorEq, ↓reduceIte, List.length_cons, List.length_nil, Nat.reduceLT, Nat.reduceLeDiff, Nat.le_refl, implies_true, true_and, and_true, Option.toList, List.cons_append, List.nil_append, gs_176, pt_Rdr hp', gs_177]
      have hl := rf_lt hr (show i - 1 < n by omega)
      refine ma_callP mt_Bod_put rfl rfl (Nat.le_of_ble_eq_true rfl) (Nat.le_refl _) (Nat.le_refl _) (m_put l g x hp' hw (Or.inr rfl) hb (show i < 33 by omega) hl) ?_
      intro v S' h2 hpost
      obtain ⟨rfl, rfl, o2, b2⟩ := hpost
      simp only [pa_Rdr_restoreCut, ma_go, ev_A, ev_B, ev_C, ev_D, Nat.reduceAdd, List.mem_cons, List.not_mem_nil, or_false, or_true, true_or, false_or, or_self, Nat.reduceEqDiff, reduceCtorEq, ↓reduceIte, List.length_cons, List.length_nil, Nat.reduceLT, Nat.reduceLeDiff, Nat.le_refl, implies_true, true_and, and_true, Option.toList, List.cons_append, List.nil_append]
      rw [nx_1, nI_add]
      have i2 := ih (i + 1) h2 (by omega) (by omega) (on_tr ho o2) (wf_congr (fun k _ => mc_up f w0 hi1 k) (up_wf hw hl)) (bd_congr (fun k _ => mc_up f w0 hi1 k) b2)
      rw [show sm (i + 1 - 1) f = sm (i - 1) f + f (i - 1) by rw [show i + 1 - 1 = (i - 1) + 1 by omega]; rfl] at i2
      exact ma_J.less i2 ⟨rfl, rfl, rfl, rfl, trivial⟩
  refine ma_run0 po_Rdr_restoreCut rfl rfl [4] 60 ?_
  simp only [pa_Rdr_restoreCut, ma_go, ev_A, ev_B, ev_C, ev_D, Nat.reduceAdd, List.mem_cons, List.not_mem_nil, or_false, or_true, true_or, false_or, or_self, Nat.reduceEqDiff, reduceCtorEq, ↓reduceIte, List.length_cons, List.length_nil, Nat.reduceLT, Nat.reduceLeDiff, Nat.le_refl, implies_true, true_and, and_true, Option.toList, List.cons_append, List.nil_append]
  exact loop 32 1 h (by omega) (by omega) (on_rf h _) (wf_congr (fun k _ => (if_neg (by omega)).symm) hw) (bd_congr (fun k _ => (if_neg (by omega)).symm) hb)
/-- restore: the read's word, or none -/
def wr (f : Nat → Nat) (n : Nat) : Option (Nat → Nat) := if 44 ≤ n ∧ n ≤ 46 then wd f n else none
theorem m_restore (hp : pt_ok h) (ha : isr a) (hr : rf h a n f) (hn : n ≤ 60) (hw : wf w0) (hb : bd h 177 w0) : ma_PM l g x me_Rdr_restore [.ref 176, .ref a] GS h (fun v S' h' => S' = GS ∧ on h h' [176, 177, 178] ∧ ∃ w', wf w' ∧ bd h' 177 w' ∧ rsP (wr f n) v w') := by
  refine ma_PM_of (P := pr_Rdr_restore) (by decide) rfl (Nat.le_of_ble_eq_true rfl) ?_
  show ma_J l g x none me_Rdr_restore pr_Rdr_restore _ 0 [some (.ref 176), some (.ref a)] [] 0 0 GS h
  refine ma_run0 po_Rdr_restore rfl rfl [] 60 ?_
  simp only [pa_Rdr_restore, ma_go, ev_A, ev_B, ev_C, ev_D, Nat.reduceAdd, List.mem_cons, List.not_mem_nil, or_false, or_true, true_or, false_or, or_self, Nat.reduceEqDiff, reduceCtorEq, ↓reduceIte, List.length_cons, List.length_nil, Nat.reduceLT, Nat.reduceLeDiff, Nat.le_refl, implies_true, true_and, and_true, Option.toList, List.cons_append, List.nil_append, gs_176, gs_row ha, hr.1]
  refine ⟨fun q => ?_, fun q => ⟨fun q2 => ?_, fun q2 => ?_⟩⟩
  · have := (nI_ltI (by omega) (by omega)).mp q
    exact ⟨on_rf h _, w0, hw, hb, Or.inr ⟨rfl, if_neg (by omega)⟩⟩
  · have := (nI_ltI (by omega) (by omega)).mp q2
    exact ⟨on_rf h _, w0, hw, hb, Or.inr ⟨rfl, if_neg (by omega)⟩⟩
  · have n1 : 44 ≤ n := Nat.le_of_not_lt (fun z => q (nI_lt z (by omega)))
    have n2 : n ≤ 46 := Nat.le_of_not_lt (fun z => q2 (nI_lt z (by omega)))
    rw [show wr f n = wd f n from if_pos ⟨n1, n2⟩]
    refine ma_callP mt_Rdr_takeTail rfl rfl (Nat.le_of_ble_eq_true rfl) (Nat.le_refl _) (Nat.le_refl _) (m_takeTail l g x ha hr hn (by omega)) ?_
    intro v S' h2 hpost
    obtain ⟨rfl, o2, hh⟩ := hpost
    have hp2 := on_pt o2 hp
    have r2 := rf_onr (onr_on o2) (a := a) (by rcases ha with ha | ha <;> simp <;> omega) hr
    have b2 := bd_on o2 (by decide) (by decide) hb
    rcases hh with ⟨rfl, s, G, hs, hG, hd, c1, c2⟩ | ⟨rfl, hd⟩
    · simp only [pa_Rdr_restore, ma_go, ev_A, ev_B, ev_C, ev_D, Nat.reduceAdd, List.mem_cons, List.not_mem_nil, or_false, or_true, true_or, false_or, or_self, Nat.reduceEqDiff, reduceCtorEq, ↓reduceIte, List.length_cons, List.length_nil, Nat.reduceLT, Nat.reduceLeDiff, Nat.le_refl, implies_true, true_and, and_true, Option.toList, List.cons_append, List.nil_append, gs_176, gs_row ha, r2.1]
      refine ⟨fun _ => ?_, fun q => absurd q (by decide +kernel)⟩
      have hwd : wd f n = if n = 45 then (if okb f s G = true then some f else none) else if n = 44 then (fi (fun i => okb (ct f i (ml f s)) s G) 33).map (fun i => ct f i (ml f s)) else (fi (fun i => okb (gr f i) s G) 34).map (gr f) := by unfold wd; rw [hd]
      rw [hwd]
      refine ⟨fun q => ⟨fun q2 => ?_, fun q2 => ?_⟩, fun q => ?_⟩
      · have n3 := (nI_leI (by omega) (by omega)).mp q
        have n4 : n ≠ 45 := fun z => q2 (by rw [z])
        rw [if_neg n4, if_neg (by omega)]
        refine ma_callP mt_Rdr_restoreGrown rfl rfl (Nat.le_of_ble_eq_true rfl) (Nat.le_refl _) (Nat.le_refl _) (m_restoreGrown l g x hp2 ha r2 (by omega) hw b2 hs hG c1 c2) ?_
        intro v S' h3 hpost
        obtain ⟨rfl, o3, w', w1, w2, hrs⟩ := hpost
        have o4 := on_tr (on_mo (L' := [176, 177, 178]) o2 (by simp)) (on_mo (L' := [176, 177, 178]) o3 (by simp))
        rcases hrs with ⟨rfl, w, hw1, hw2⟩ | ⟨rfl, hw1⟩
        · simp only [pa_Rdr_restore, ma_go, ev_A, ev_B, ev_C, ev_D, Nat.reduceAdd, List.mem_cons, List.not_mem_nil, or_false, or_true, true_or, false_or, or_self, Nat.reduceEqDiff, reduceCtorEq, ↓reduceIte, List.length_cons, List.length_nil, Nat.reduceLT, Nat.reduceLeDiff, Nat.le_refl, implies_true, true_and, and_true, Option.toList, List.cons_append, List.nil_append]
          exact ⟨o4, w', w1, w2, Or.inl ⟨rfl, w, hw1, hw2⟩⟩
        · simp only [pa_Rdr_restore, ma_go, ev_A, ev_B, ev_C, ev_D, Nat.reduceAdd, List.mem_cons, List.not_mem_nil, or_false, or_true, true_or, false_or, or_self, Nat.reduceEqDiff, reduceCtorEq, ↓reduceIte, List.length_cons, List.length_nil, Nat.reduceLT, Nat.reduceLeDiff, Nat.le_refl, implies_true, true_and, and_true, Option.toList, List.cons_append, List.nil_append]
          exact ⟨o4, w', w1, w2, Or.inr ⟨rfl, hw1⟩⟩
      · have n4 : n = 45 := (nI_eq (by omega) (by omega)).mp q2
        rw [if_pos n4]
        refine ma_callP mt_Rdr_restoreWhole rfl rfl (Nat.le_of_ble_eq_true rfl) (Nat.le_refl _) (Nat.le_refl _) (m_restoreWhole l g x hp2 ha r2 (by omega) hw b2 hs hG c1 c2) ?_
        intro v S' h3 hpost
        obtain ⟨rfl, o3, w', w1, w2, hrs⟩ := hpost
        have o4 := on_tr (on_mo (L' := [176, 177, 178]) o2 (by simp)) (on_mo (L' := [176, 177, 178]) o3 (by simp))
        rcases hrs with ⟨rfl, w, hw1, hw2⟩ | ⟨rfl, hw1⟩
        · simp only [pa_Rdr_restore, ma_go, ev_A, ev_B, ev_C, ev_D, Nat.reduceAdd, List.mem_cons, List.not_mem_nil, or_false, or_true, true_or, false_or, or_self, Nat.reduceEqDiff, reduceCtorEq, ↓reduceIte, List.length_cons, List.length_nil, Nat.reduceLT, Nat.reduceLeDiff, Nat.le_refl, implies_true, true_and, and_true, Option.toList, List.cons_append, List.nil_append]
          exact ⟨o4, w', w1, w2, Or.inl ⟨rfl, w, hw1, hw2⟩⟩
        · simp only [pa_Rdr_restore, ma_go, ev_A, ev_B, ev_C, ev_D, Nat.reduceAdd, List.mem_cons, List.not_mem_nil, or_false, or_true, true_or, false_or, or_self, Nat.reduceEqDiff, reduceCtorEq, ↓reduceIte, List.length_cons, List.length_nil, Nat.reduceLT, Nat.reduceLeDiff, Nat.le_refl, implies_true, true_and, and_true, Option.toList, List.cons_append, List.nil_append]
          exact ⟨o4, w', w1, w2, Or.inr ⟨rfl, hw1⟩⟩
      · have n3 : ¬ 45 ≤ n := fun z => q (nI_le z (by omega))
        rw [if_neg (by omega), if_pos (by omega)]
        refine ma_callP mt_Rdr_restoreCut rfl rfl (Nat.le_of_ble_eq_true rfl) (Nat.le_refl _) (Nat.le_refl _) (m_restoreCut l g x hp2 ha r2 (by omega) hw b2 hs hG c1 c2) ?_
        intro v S' h3 hpost
        obtain ⟨rfl, o3, w', w1, w2, hrs⟩ := hpost
        have o4 := on_tr (on_mo (L' := [176, 177, 178]) o2 (by simp)) (on_mo (L' := [176, 177, 178]) o3 (by simp))
        rcases hrs with ⟨rfl, w, hw1, hw2⟩ | ⟨rfl, hw1⟩
        · simp only [pa_Rdr_restore, ma_go, ev_A, ev_B, ev_C, ev_D, Nat.reduceAdd, List.mem_cons, List.not_mem_nil, or_false, or_true, true_or, false_or, or_self, Nat.reduceEqDiff, reduceCtorEq, ↓reduceIte, List.length_cons, List.length_nil, Nat.reduceLT, Nat.reduceLeDiff, Nat.le_refl, implies_true, true_and, and_true, Option.toList, List.cons_append, List.nil_append]
          exact ⟨o4, w', w1, w2, Or.inl ⟨rfl, w, hw1, hw2⟩⟩
        · simp only [pa_Rdr_restore, ma_go, ev_A, ev_B, ev_C, ev_D, Nat.reduceAdd, List.mem_cons, List.not_mem_nil, or_false, or_true, true_or, false_or, or_self, Nat.reduceEqDiff, reduceCtorEq, ↓reduceIte, List.length_cons, List.length_nil, Nat.reduceLT, Nat.reduceLeDiff, Nat.le_refl, implies_true, true_and, and_true, Option.toList, List.cons_append, List.nil_append]
          exact ⟨o4, w', w1, w2, Or.inr ⟨rfl, hw1⟩⟩
    · simp only [pa_Rdr_restore, ma_go, ev_A, ev_B, ev_C, ev_D, Nat.reduceAdd, List.mem_cons, List.not_mem_nil, or_false, or_true, true_or, false_or, or_self, Nat.reduceEqDiff, reduceCtorEq, ↓reduceIte, List.length_cons, List.length_nil, Nat.reduceLT, Nat.reduceLeDiff, Nat.le_refl, implies_true, true_and, and_true, Option.toList, List.cons_append, List.nil_append, gs_176, gs_row ha, r2.1]
      refine ⟨fun q => absurd trivial q, fun _ => ?_⟩
      exact ⟨on_mo o2 (by simp), w0, hw, b2, Or.inr ⟨rfl, by unfold wd; rw [hd]⟩⟩
end
