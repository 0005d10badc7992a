/-! Column: the sums, the weighing, the values of polynomials -/
/-- an array of ints that holds numbers -/
def ar (h : ma_H) (a n : Nat) (f : Nat → Nat) : Prop := ∀ i, i < n → h.1 a i = nI (f i)
theorem ar_on {h h' : ma_H} {L : List Nat} (ho : on h h' L) {a n : Nat} {f : Nat → Nat} (ha : a ∉ L) (hr : ar h a n f) : ar h' a n f := fun i hi => by rw [ho.2 a ha]; exact hr i hi
theorem m_fill (l : Launch) (g : ma_G) (x : Bool) {h : ma_H} {a n : Nat} (hs : ma_sh GS a = some (.inr (.int, n))) (hn : n < 2 ^ 20) (v : Nat) : ma_PM l g x me_Arr_fill [.ref a, .int (nI v)] GS h (fun r S' h' => r = none ∧ S' = GS ∧ on h h' [a] ∧ ar h' a n (fun _ => v)) := by
  refine ma_PM_of (P := pr_Arr_fill) (by decide) rfl (Nat.le_of_ble_eq_true rfl) ?_
  show ma_J l g x none me_Arr_fill pr_Arr_fill _ 0 [some (.ref a), some (.int (nI v)), none, none] [] 0 0 GS h
  have loop : ∀ m i h', i + m = n → on h h' [a] → ar h' a i (fun _ => v) → ma_J l g x none me_Arr_fill pr_Arr_fill (fun r S' h' => r = none ∧ S' = GS ∧ on h h' [a] ∧ ar h' a n (fun _ => v)) 5 [some (.ref a), some (.int (nI v)), some (.int (nI i)), some (.int (nI n))] [] 0 0 GS h' := by
    intro m
    induction m with
    | zero =>
      intro i h' hi ho ha
      refine ma_run0 po_Arr_fill rfl rfl [5] 30 ?_
      simp only [pa_Arr_fill, ma_go, ev_A, ev_B, ev_C, ev_D, Nat.reduceAdd, List.mem_cons, List.not_mem_nil, or_false, or_true, true_or, false_or, or_self, Nat.reduceEqDiff, reduceCtorEq, ↓reduceIte, List.length_cons, List.length_nil, Nat.reduceLT, Nat.reduceLeDiff, Nat.le_refl, implies_true, true_and, and_true, Option.toList, List.cons_append, List.nil_append]
      have e : i = n := by omega
      subst e
      exact ⟨fun _ => ⟨ho, ha⟩, fun q => absurd (nI_le (Nat.le_refl _) (by omega)) q⟩
    | succ m ih =>
      intro i h' hi ho ha
      refine ma_run0 po_Arr_fill rfl rfl [5] 30 ?_
      simp only [pa_Arr_fill, ma_go, ev_A, ev_B, ev_C, ev_D, Nat.reduceAdd, List.mem_cons, List.not_mem_nil, or_false, or_true, true_or, false_or, or_self, Nat.reduceEqDiff, reduceCtorEq, ↓reduceIte, List.length_cons, List.length_nil, Nat.reduceLT, Nat.reduceLeDiff, Nat.le_refl, implies_true, true_and, and_true, Option.toList, List.cons_append, List.nil_append]
      refine ⟨fun q => absurd q (nI_ge (by omega) (by omega)), fun _ => ⟨ma_in_of hs (by omega) (by omega), ?_⟩⟩
      rw [nx_1, nI_clamp (by omega)]
      refine ih (i + 1) _ (by omega) (on_uI ho _ _ (by simp)) (fun j hj => ?_)
      by_cases e : j = i
      · subst e; exact uI_same _ _ _ _
      · rw [uI_ne (fun q => e q.2)]; exact ha j (by omega)
  refine ma_run0 po_Arr_fill rfl rfl [5] 30 ?_
  simp only [pa_Arr_fill, ma_go, ev_A, ev_B, ev_C, ev_D, Nat.reduceAdd, List.mem_cons, List.not_mem_nil, or_false, or_true, true_or, false_or, or_self, Nat.reduceEqDiff, reduceCtorEq, ↓reduceIte, List.length_cons, List.length_nil, Nat.reduceLT, Nat.reduceLeDiff, Nat.le_refl, implies_true, true_and, and_true, Option.toList, List.cons_append, List.nil_append]
  exact ⟨n, hs, loop n 0 h (by omega) (on_rf h _) (fun i hi => by omega)⟩
theorem m_weigh (l : Launch) (g : ma_G) (x : Bool) {h : ma_H} (hp : pt_ok h) (hf : fd_ok h) {p S : Nat → Nat} (hpl : ∀ i, p i < 256) (hSl : ∀ i, S i < 256) (h1 : ar h 168 7 p) (h2 : ar h 166 6 S) {st d : Nat} (hd : st + d < 6) : ma_PM l g x me_Col_weigh [.ref 163, .int (nI st), .int (nI d)] GS h (fun v S' h' => v = some (.int (nI (gf_s (d + 1) (fun i => gf_m (p i) (S (st + i)))))) ∧ S' = GS ∧ h' = h) := by
  refine ma_PM_of (P := pr_Col_weigh) (by decide) rfl (Nat.le_of_ble_eq_true rfl) ?_
  show ma_J l g x none me_Col_weigh pr_Col_weigh _ 0 [some (.ref 163), some (.int (nI st)), some (.int (nI d)), none, none] [] 0 0 GS h
  have loop : ∀ m i, i + m = d + 1 → ma_J l g x none me_Col_weigh pr_Col_weigh (fun v S' h' => v = some (.int (nI (gf_s (d + 1) (fun i => gf_m (p i) (S (st + i)))))) ∧ S' = GS ∧ h' = h) 4 [some (.ref 163), some (.int (nI st)), some (.int (nI d)), some (.int (nI (gf_s i (fun i => gf_m (p i) (S (st + i)))))), some (.int (nI i))] [] 0 0 GS h := by
    intro m
    induction m with
    | zero =>
      intro i hi
      refine ma_run0 po_Col_weigh rfl rfl [4] 60 ?_
      simp only [pa_Col_weigh, ma_go, ev_A, ev_B, ev_C, ev_D, Nat.reduceAdd, List.mem_cons, List.not_mem_nil, or_false, or_true, true_or, false_or, or_self, Nat.reduceEqDiff, reduceCtorEq, ↓reduceIte, List.length_cons, List.length_nil, Nat.reduceLT, Nat.reduceLeDiff, Nat.le_refl, implies_true, true_and, and_true, Option.toList, List.cons_append, List.nil_append, pt_Col hp, gs_163]
      have e : i = d + 1 := by omega
      subst e
      exact ⟨fun _ => rfl, fun q => absurd (nI_lt (by omega) (by omega)) q⟩
    | succ m ih =>
      intro i hi
      refine ma_run0 po_Col_weigh rfl rfl [4] 60 ?_
      simp only [pa_Col_weigh, ma_go, ev_A, ev_B, ev_C, ev_D, Nat.reduceAdd, List.mem_cons, List.not_mem_nil, or_false, or_true, true_or, false_or, or_self, Nat.reduceEqDiff, reduceCtorEq, ↓reduceIte, List.length_cons, List.length_nil, Nat.reduceLT, Nat.reduceLeDiff, Nat.le_refl, implies_true, true_and, and_true, Option.toList, List.cons_append, List.nil_append, pt_Col hp, gs_163]
      refine ⟨fun q => absurd q (nI_nlt (by omega) (by omega)), fun _ => ?_⟩
      rw [nI_add]
      refine ⟨fun q => absurd q (nI_ge (by omega) (by omega)), fun _ => ?_⟩
      rw [nI_clamp (by omega), nI_clamp (by omega), h1 i (by omega), h2 (st + i) (by omega)]
      refine ⟨ma_in_of gs_168 (by omega) (by decide), ma_in_of gs_166 (by omega) (by decide), gs_160, ?_⟩
      refine ma_callD mt_Fld_times rfl rfl (Nat.le_of_ble_eq_true rfl) (Nat.le_refl _) (Nat.le_refl _) (m_times l g x hf (hpl i) (hSl _)) ?_
      simp only [pa_Col_weigh, ma_go, ev_A, ev_B, ev_C, ev_D, Nat.reduceAdd, List.mem_cons, List.not_mem_nil, or_false, or_true, true_or, false_or, or_self, Nat.reduceEqDiff, reduceCtorEq, ↓reduceIte, List.length_cons, List.length_nil, Nat.reduceLT, Nat.reduceLeDiff, Nat.le_refl, implies_true, true_and, and_true, Option.toList, List.cons_append, List.nil_append]
      rw [nx_xor, nx_1]
      exact ih (i + 1) (by omega)
  refine ma_run0 po_Col_weigh rfl rfl [4] 60 ?_
  simp only [pa_Col_weigh, ma_go, ev_A, ev_B, ev_C, ev_D, Nat.reduceAdd, List.mem_cons, List.not_mem_nil, or_false, or_true, true_or, false_or, or_self, Nat.reduceEqDiff, reduceCtorEq, ↓reduceIte, List.length_cons, List.length_nil, Nat.reduceLT, Nat.reduceLeDiff, Nat.le_refl, implies_true, true_and, and_true, Option.toList, List.cons_append, List.nil_append]
  exact loop (d + 1) 0 (by omega)
theorem m_missAt (l : Launch) (g : ma_G) (x : Bool) {h : ma_H} (hp : pt_ok h) (hf : fd_ok h) {C T : Nat → Nat} (hC : ∀ i, C i < 256) (hT : ∀ i, T i < 256) {n : Nat} (h1 : ar h 169 7 C) (h2 : ar h 167 n T) {k L : Nat} (hk : k < n) (hn : n ≤ 6) (hL : L ≤ k) : ma_PM l g x me_Col_missAt [.ref 163, .int (nI k), .int (nI L)] GS h (fun v S' h' => v = some (.int (nI (gf_s (L + 1) (fun i => gf_m (C i) (T (k - i)))))) ∧ S' = GS ∧ h' = h) := by
  refine ma_PM_of (P := pr_Col_missAt) (by decide) rfl (Nat.le_of_ble_eq_true rfl) ?_
  show ma_J l g x none me_Col_missAt pr_Col_missAt _ 0 [some (.ref 163), some (.int (nI k)), some (.int (nI L)), none, none] [] 0 0 GS h
  have loop : ∀ m i, i + m = L + 1 → ma_J l g x none me_Col_missAt pr_Col_missAt (fun v S' h' => v = some (.int (nI (gf_s (L + 1) (fun i => gf_m (C i) (T (k - i)))))) ∧ S' = GS ∧ h' = h) 4 [some (.ref 163), some (.int (nI k)), some (.int (nI L)), some (.int (nI (gf_s i (fun i => gf_m (C i) (T (k - i)))))), some (.int (nI i))] [] 0 0 GS h := by
    intro m
    induction m with
    | zero =>
      intro i hi
      refine ma_run0 po_Col_missAt rfl rfl [4] 60 ?_
      simp only [pa_Col_missAt, ma_go, ev_A, ev_B, ev_C, ev_D, Nat.reduceAdd, List.mem_cons, List.not_mem_nil, or_false, or_true, true_or, false_or, or_self, Nat.reduceEqDiff, reduceCtorEq, ↓reduceIte, List.length_cons, List.length_nil, Nat.reduceLT, Nat.reduceLeDiff, Nat.le_refl, implies_true, true_and, and_true, Option.toList, List.cons_append, List.nil_append, pt_Col hp, gs_163]
      have e : i = L + 1 := by omega
      subst e
      exact ⟨fun _ => rfl, fun q => absurd (nI_lt (by omega) (by omega)) q⟩
    | succ m ih =>
      intro i hi
      refine ma_run0 po_Col_missAt rfl rfl [4] 60 ?_
      simp only [pa_Col_missAt, ma_go, ev_A, ev_B, ev_C, ev_D, Nat.reduceAdd, List.mem_cons, List.not_mem_nil, or_false, or_true, true_or, false_or, or_self, Nat.reduceEqDiff, reduceCtorEq, ↓reduceIte, List.length_cons, List.length_nil, Nat.reduceLT, Nat.reduceLeDiff, Nat.le_refl, implies_true, true_and, and_true, Option.toList, List.cons_append, List.nil_append, pt_Col hp, gs_163]
      refine ⟨fun q => absurd q (nI_nlt (by omega) (by omega)), fun _ => ⟨fun q => absurd q (nI_nlt (by omega) (by omega)), fun _ => ?_⟩⟩
      rw [nx_sub' (by omega), nI_clamp (by omega), nI_clamp (by omega), h1 i (by omega), h2 (k - i) (by omega)]
      refine ⟨ma_in_of gs_169 (by omega) (by decide), ma_in_of gs_167 (by omega) (by decide), gs_160, ?_⟩
      refine ma_callD mt_Fld_times rfl rfl (Nat.le_of_ble_eq_true rfl) (Nat.le_refl _) (Nat.le_refl _) (m_times l g x hf (hC i) (hT _)) ?_
      simp only [pa_Col_missAt, ma_go, ev_A, ev_B, ev_C, ev_D, Nat.reduceAdd, List.mem_cons, List.not_mem_nil, or_false, or_true, true_or, false_or, or_self, Nat.reduceEqDiff, reduceCtorEq, ↓reduceIte, List.length_cons, List.length_nil, Nat.reduceLT, Nat.reduceLeDiff, Nat.le_refl, implies_true, true_and, and_true, Option.toList, List.cons_append, List.nil_append]
      rw [nx_xor, nx_1]
      exact ih (i + 1) (by omega)
  refine ma_run0 po_Col_missAt rfl rfl [4] 60 ?_
  simp only [pa_Col_missAt, ma_go, ev_A, ev_B, ev_C, ev_D, Nat.reduceAdd, List.mem_cons, List.not_mem_nil, or_false, or_true, true_or, false_or, or_self, Nat.reduceEqDiff, reduceCtorEq, ↓reduceIte, List.length_cons, List.length_nil, Nat.reduceLT, Nat.reduceLeDiff, Nat.le_refl, implies_true, true_and, and_true, Option.toList, List.cons_append, List.nil_append]
  exact loop (L + 1) 0 (by omega)
/-- Horner's values, from the first coefficient on -/
theorem m_recurrenceAt (l : Launch) (g : ma_G) (x : Bool) {h : ma_H} (hp : pt_ok h) (hf : fd_ok h) {C : Nat → Nat} (hC : ∀ i, C i < 256) (h1 : ar h 169 7 C) {pl L : Nat} (hpl : pl < 256) (hL : L < 7) : ma_PM l g x me_Col_recurrenceAt [.ref 163, .int (nI pl), .int (nI L)] GS h (fun v S' h' => v = some (.int (nI (gf_ho C L pl))) ∧ S' = GS ∧ h' = h) := by
  refine ma_PM_of (P := pr_Col_recurrenceAt) (by decide) rfl (Nat.le_of_ble_eq_true rfl) ?_
  show ma_J l g x none me_Col_recurrenceAt pr_Col_recurrenceAt _ 0 [some (.ref 163), some (.int (nI pl)), some (.int (nI L)), none, none] [] 0 0 GS h
  have loop : ∀ m i v, i + m = L + 1 → v < 256 → gf_m v pl ^^^ C i = gf_ho C i pl → (m = 0 → v = gf_ho C L pl) → ma_J l g x none me_Col_recurrenceAt pr_Col_recurrenceAt (fun v S' h' => v = some (.int (nI (gf_ho C L pl))) ∧ S' = GS ∧ h' = h) 4 [some (.ref 163), some (.int (nI pl)), some (.int (nI L)), some (.int (nI v)), some (.int (nI i))] [] 0 0 GS h := by
    intro m
    induction m with
    | zero =>
      intro i v hi hv _ hz
      refine ma_run0 po_Col_recurrenceAt rfl rfl [4] 60 ?_
      simp only [pa_Col_recurrenceAt, ma_go, ev_A, ev_B, ev_C, ev_D, Nat.reduceAdd, List.mem_cons, List.not_mem_nil, or_false, or_true, true_or, false_or, or_self, Nat.reduceEqDiff, reduceCtorEq, ↓reduceIte, List.length_cons, List.length_nil, Nat.reduceLT, Nat.reduceLeDiff, Nat.le_refl, implies_true, true_and, and_true, Option.toList, List.cons_append, List.nil_append, pt_Col hp, gs_163]
      have e : i = L + 1 := by omega
      subst e
      rw [hz rfl]
      exact ⟨fun _ => rfl, fun q => absurd (nI_lt (by omega) (by omega)) q⟩
    | succ m ih =>
      intro i v hi hv hh _
      refine ma_run0 po_Col_recurrenceAt rfl rfl [4] 60 ?_
      simp only [pa_Col_recurrenceAt, ma_go, ev_A, ev_B, ev_C, ev_D, Nat.reduceAdd, List.mem_cons, List.not_mem_nil, or_false, or_true, true_or, false_or, or_self, Nat.reduceEqDiff, reduceCtorEq, ↓reduceIte, List.length_cons, List.length_nil, Nat.reduceLT, Nat.reduceLeDiff, Nat.le_refl, implies_true, true_and, and_true, Option.toList, List.cons_append, List.nil_append, pt_Col hp, gs_163]
      refine ⟨fun q => absurd q (nI_nlt (by omega) (by omega)), fun _ => ⟨gs_160, ?_⟩⟩
      refine ma_callD mt_Fld_times rfl rfl (Nat.le_of_ble_eq_true rfl) (Nat.le_refl _) (Nat.le_refl _) (m_times l g x hf hv hpl) ?_
      simp only [pa_Col_recurrenceAt, ma_go, ev_A, ev_B, ev_C, ev_D, Nat.reduceAdd, List.mem_cons, List.not_mem_nil, or_false, or_true, true_or, false_or, or_self, Nat.reduceEqDiff, reduceCtorEq, ↓reduceIte, List.length_cons, List.length_nil, Nat.reduceLT, Nat.reduceLeDiff, Nat.le_refl, implies_true, true_and, and_true, Option.toList, List.cons_append, List.nil_append, pt_Col hp, gs_163]
      rw [nI_clamp (by omega), h1 i (by omega), nx_xor, nx_1, hh]
      refine ⟨ma_in_of gs_169 (by omega) (by decide), ih (i + 1) _ (by omega) (gf_ho_lt hC _ _) rfl (fun q => ?_)⟩
      rw [show i = L by omega]
  refine ma_run0 po_Col_recurrenceAt rfl rfl [4] 60 ?_
  simp only [pa_Col_recurrenceAt, ma_go, ev_A, ev_B, ev_C, ev_D, Nat.reduceAdd, List.mem_cons, List.not_mem_nil, or_false, or_true, true_or, false_or, or_self, Nat.reduceEqDiff, reduceCtorEq, ↓reduceIte, List.length_cons, List.length_nil, Nat.reduceLT, Nat.reduceLeDiff, Nat.le_refl, implies_true, true_and, and_true, Option.toList, List.cons_append, List.nil_append]
  refine loop (L + 1) 0 0 (by omega) (by decide) ?_ (fun q => by omega)
  rw [gf_m_zero_left, Nat.zero_xor]
  rfl
theorem m_polynomialAt (l : Launch) (g : ma_G) (x : Bool) {h : ma_H} (hp : pt_ok h) (hf : fd_ok h) {p : Nat → Nat} (hpl : ∀ i, p i < 256) (h1 : ar h 168 7 p) {pl d : Nat} (hpl2 : pl < 256) (hd : d < 7) : ma_PM l g x me_Col_polynomialAt [.ref 163, .int (nI pl), .int (nI d)] GS h (fun v S' h' => v = some (.int (nI (gf_ho (fun i => p (d - i)) d pl))) ∧ S' = GS ∧ h' = h) := by
  refine ma_PM_of (P := pr_Col_polynomialAt) (by decide) rfl (Nat.le_of_ble_eq_true rfl) ?_
  show ma_J l g x none me_Col_polynomialAt pr_Col_polynomialAt _ 0 [some (.ref 163), some (.int (nI pl)), some (.int (nI d)), none, none] [] 0 0 GS h
  have hC : ∀ i, (fun i => p (d - i)) i < 256 := fun i => hpl _
  have loop : ∀ m i v, i + m = d + 1 → v < 256 → gf_m v pl ^^^ p (d - i) = gf_ho (fun i => p (d - i)) i pl → (m = 0 → v = gf_ho (fun i => p (d - i)) d pl) → ma_J l g x none me_Col_polynomialAt pr_Col_polynomialAt (fun v S' h' => v = some (.int (nI (gf_ho (fun i => p (d - i)) d pl))) ∧ S' = GS ∧ h' = h) 4 [some (.ref 163), some (.int (nI pl)), some (.int (nI d)), some (.int (nI v)), some (.int (nI m + -1))] [] 0 0 GS h := by
    intro m
    induction m with
    | zero =>
      intro i v hi hv _ hz
      refine ma_run0 po_Col_polynomialAt rfl rfl [4] 60 ?_
      simp only [pa_Col_polynomialAt, ma_go, ev_A, ev_B, ev_C, ev_D, Nat.reduceAdd, List.mem_cons, List.not_mem_nil, or_false, or_true, true_or, false_or, or_self, Nat.reduceEqDiff, reduceCtorEq, ↓reduceIte, List.length_cons, List.length_nil, Nat.reduceLT, Nat.reduceLeDiff, Nat.le_refl, implies_true, true_and, and_true, Option.toList, List.cons_append, List.nil_append, pt_Col hp, gs_163]
      rw [hz rfl]
      exact ⟨fun _ => rfl, fun q => absurd (by decide +kernel : nI 0 + -1 < nI 0) q⟩
    | succ m ih =>
      intro i v hi hv hh _
      refine ma_run0 po_Col_polynomialAt rfl rfl [4] 60 ?_
      simp only [pa_Col_polynomialAt, ma_go, ev_A, ev_B, ev_C, ev_D, Nat.reduceAdd, List.mem_cons, List.not_mem_nil, or_false, or_true, true_or, false_or, or_self, Nat.reduceEqDiff, reduceCtorEq, ↓reduceIte, List.length_cons, List.length_nil, Nat.reduceLT, Nat.reduceLeDiff, Nat.le_refl, implies_true, true_and, and_true, Option.toList, List.cons_append, List.nil_append, pt_Col hp, gs_163]
      rw [pk_m1]
      refine ⟨fun q => absurd q (nI_nlt (by omega) (by omega)), fun _ => ⟨gs_160, ?_⟩⟩
      refine ma_callD mt_Fld_times rfl rfl (Nat.le_of_ble_eq_true rfl) (Nat.le_refl _) (Nat.le_refl _) (m_times l g x hf hv hpl2) ?_
      simp only [pa_Col_polynomialAt, ma_go, ev_A, ev_B, ev_C, ev_D, Nat.reduceAdd, List.mem_cons, List.not_mem_nil, or_false, or_true, true_or, false_or, or_self, Nat.reduceEqDiff, reduceCtorEq, ↓reduceIte, List.length_cons, List.length_nil, Nat.reduceLT, Nat.reduceLeDiff, Nat.le_refl, implies_true, true_and, and_true, Option.toList, List.cons_append, List.nil_append, pt_Col hp, gs_163]
      rw [nI_clamp (by omega), h1 m (by omega), nx_xor, show m = d - i by omega, hh, show d - i = m by omega]
      refine ⟨ma_in_of gs_168 (by omega) (by decide), ih (i + 1) _ (by omega) (gf_ho_lt hC _ _) rfl (fun q => ?_)⟩
      rw [show i = d by omega]
  refine ma_run0 po_Col_polynomialAt rfl rfl [4] 60 ?_
  simp only [pa_Col_polynomialAt, ma_go, ev_A, ev_B, ev_C, ev_D, Nat.reduceAdd, List.mem_cons, List.not_mem_nil, or_false, or_true, true_or, false_or, or_self, Nat.reduceEqDiff, reduceCtorEq, ↓reduceIte, List.length_cons, List.length_nil, Nat.reduceLT, Nat.reduceLeDiff, Nat.le_refl, implies_true, true_and, and_true, Option.toList, List.cons_append, List.nil_append]
  have h0 := loop (d + 1) 0 0 (by omega) (by decide) (by rw [gf_m_zero_left, Nat.zero_xor]; rfl) (fun q => by omega)
  rw [pk_m1] at h0
  exact h0
theorem m_addUp (l : Launch) (g : ma_G) (x : Bool) {h : ma_H} (hp : pt_ok h) (hf : fd_ok h) {c : Nat → Nat} (hc : ∀ s, s < 16 → c s < 256) (h1 : ar h 164 16 c) : ma_PM l g x me_Col_addUp [.ref 163] GS h (fun v S' h' => v = none ∧ S' = GS ∧ on h h' [166] ∧ ar h' 166 6 (gf_sy c)) := by
  refine ma_PM_of (P := pr_Col_addUp) (by decide) rfl (Nat.le_of_ble_eq_true rfl) ?_
  show ma_J l g x none me_Col_addUp pr_Col_addUp _ 0 [some (.ref 163), none, none, none] [] 0 0 GS h
  have outer : ∀ m j h', j + m = 6 → on h h' [166] → ar h' 166 j (gf_sy c) → ma_J l g x none me_Col_addUp pr_Col_addUp (fun v S' h' => v = none ∧ S' = GS ∧ on h h' [166] ∧ ar h' 166 6 (gf_sy c)) 2 [some (.ref 163), some (.int (nI j)), none, none] [] 0 0 GS h' := by
    intro m
    induction m with
    | zero =>
      intro j h' hj ho ha
      refine ma_run0 po_Col_addUp rfl rfl [2] 60 ?_
      simp only [pa_Col_addUp, ma_go, ev_A, ev_B, ev_C, ev_D, Nat.reduceAdd, List.mem_cons, List.not_mem_nil, or_false, or_true, true_or, false_or, or_self, Nat.reduceEqDiff, reduceCtorEq, ↓reduceIte, List.length_cons, List.length_nil, Nat.reduceLT, Nat.reduceLeDiff, Nat.le_refl, implies_true, true_and, and_true, Option.toList, List.cons_append, List.nil_append]
      have e : j = 6 := by omega
      subst e
      exact ⟨fun _ => ⟨ho, ha⟩, fun q => absurd (nI_le (Nat.le_refl _) (by omega)) q⟩
    | succ m ih =>
      intro j h' hj ho ha
      have hp' := on_pt ho hp
      have hf' := fd_on ho (by decide) (by decide) hf
      have h1' := ar_on ho (by decide) h1
      have inner : ∀ n s, s + n = 16 → ma_J l g x none me_Col_addUp pr_Col_addUp (fun v S' h' => v = none ∧ S' = GS ∧ on h h' [166] ∧ ar h' 166 6 (gf_sy c)) 9 [some (.ref 163), some (.int (nI j)), some (.int (nI (gf_s s (fun s => gf_m (c s) (gf_ex (j * s)))))), some (.int (nI s))] [] 0 0 GS h' := by
        intro n
        induction n with
        | zero =>
          intro s hs
          refine ma_run0 po_Col_addUp rfl rfl [2, 9] 60 ?_
          simp only [pa_Col_addUp, ma_go, ev_A, ev_B, ev_C, ev_D, Nat.reduceAdd, List.mem_cons, List.not_mem_nil, or_false, or_true, true_or, false_or, or_self, Nat.reduceEqDiff, reduceCtorEq, ↓reduceIte, List.length_cons, List.length_nil, Nat.reduceLT, Nat.reduceLeDiff, Nat.le_refl, implies_true, true_and, and_true, Option.toList, List.cons_append, List.nil_append, pt_Col hp', gs_163]
          have e : s = 16 := by omega
          subst e
          refine ⟨fun _ => ⟨ma_in_of gs_166 (by omega) (by decide), ?_⟩, fun q => absurd (nI_le (Nat.le_refl _) (by omega)) q⟩
          rw [nx_1, nI_clamp (by omega)]
          refine ma_J.less (ih (j + 1) _ (by omega) (on_uI ho _ _ (by simp)) (fun i hi => ?_)) ⟨rfl, rfl, trivial⟩
          by_cases e : i = j
          · subst e; exact uI_same _ _ _ _
          · rw [uI_ne (fun q => e q.2)]; exact ha i (by omega)
        | succ n ihn =>
          intro s hs
          refine ma_run0 po_Col_addUp rfl rfl [2, 9] 60 ?_
          simp only [pa_Col_addUp, ma_go, ev_A, ev_B, ev_C, ev_D, Nat.reduceAdd, List.mem_cons, List.not_mem_nil, or_false, or_true, true_or, false_or, or_self, Nat.reduceEqDiff, reduceCtorEq, ↓reduceIte, List.length_cons, List.length_nil, Nat.reduceLT, Nat.reduceLeDiff, Nat.le_refl, implies_true, true_and, and_true, Option.toList, List.cons_append, List.nil_append, pt_Col hp', gs_163]
          refine ⟨fun q => absurd q (nI_ge (by omega) (by omega)), fun _ => ?_⟩
          rw [nI_clamp (by omega), h1' s (by omega), pk_mul]
          refine ⟨ma_in_of gs_164 (by omega) (by decide), gs_160, ?_⟩
          refine ma_callD mt_Fld_powerOfTwo rfl rfl (Nat.le_of_ble_eq_true rfl) (Nat.le_refl _) (Nat.le_refl _) (m_powerOfTwo l g x hf' (Nat.lt_of_le_of_lt (Nat.mul_le_mul (show j ≤ 6 by omega) (show s ≤ 16 by omega)) (by decide))) ?_
          simp only [pa_Col_addUp, ma_go, ev_A, ev_B, ev_C, ev_D, Nat.reduceAdd, List.mem_cons, List.not_mem_nil, or_false, or_true, true_or, false_or, or_self, Nat.reduceEqDiff, reduceCtorEq, ↓reduceIte, List.length_cons, List.length_nil, Nat.reduceLT, Nat.reduceLeDiff, Nat.le_refl, implies_true, true_and, and_true, Option.toList, List.cons_append, List.nil_append, pt_Col hp', gs_163]
          refine ⟨gs_160, ?_⟩
          refine ma_callD mt_Fld_times rfl rfl (Nat.le_of_ble_eq_true rfl) (Nat.le_refl _) (Nat.le_refl _) (m_times l g x hf' (hc s (by omega)) (gf_ex_pos _).2) ?_
          simp only [pa_Col_addUp, ma_go, ev_A, ev_B, ev_C, ev_D, Nat.reduceAdd, List.mem_cons, List.not_mem_nil, or_false, or_true, true_or, false_or, or_self, Nat.reduceEqDiff, reduceCtorEq, ↓reduceIte, List.length_cons, List.length_nil, Nat.reduceLT, Nat.reduceLeDiff, Nat.le_refl, implies_true, true_and, and_true, Option.toList, List.cons_append, List.nil_append]
          rw [nx_xor, nx_1]
          exact ihn (s + 1) (by omega)
      refine ma_run0 po_Col_addUp rfl rfl [2, 9] 60 ?_
      simp only [pa_Col_addUp, ma_go, ev_A, ev_B, ev_C, ev_D, Nat.reduceAdd, List.mem_cons, List.not_mem_nil, or_false, or_true, true_or, false_or, or_self, Nat.reduceEqDiff, reduceCtorEq, ↓reduceIte, List.length_cons, List.length_nil, Nat.reduceLT, Nat.reduceLeDiff, Nat.le_refl, implies_true, true_and, and_true, Option.toList, List.cons_append, List.nil_append]
      exact ⟨fun q => absurd q (nI_ge (by omega) (by omega)), fun _ => inner 16 0 rfl⟩
  refine ma_run0 po_Col_addUp rfl rfl [2] 60 ?_
  simp only [pa_Col_addUp, ma_go, ev_A, ev_B, ev_C, ev_D, Nat.reduceAdd, List.mem_cons, List.not_mem_nil, or_false, or_true, true_or, false_or, or_self, Nat.reduceEqDiff, reduceCtorEq, ↓reduceIte, List.length_cons, List.length_nil, Nat.reduceLT, Nat.reduceLeDiff, Nat.le_refl, implies_true, true_and, and_true, Option.toList, List.cons_append, List.nil_append]
  exact outer 6 0 h rfl (on_rf h _) (fun i hi => by omega)
