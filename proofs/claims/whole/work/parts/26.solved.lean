/-! the reference's solved: the equations, and their elimination -/
def mt_ok (h : ma_H) : Prop := (∀ i, i < 96 → h.1 199 i = nI (gf_ex i)) ∧ ∀ a, 1 ≤ a → a < 256 → h.1 200 a = nI (gf_inv a)
theorem mt_on {h h' : ma_H} {L : List Nat} (ho : on h h' L) (h1 : 199 ∉ L) (h2 : 200 ∉ L) (hm : mt_ok h) : mt_ok h' := ⟨fun i hi => by rw [ho.2 199 h1]; exact hm.1 i hi, fun a h0 ha => by rw [ho.2 200 h2]; exact hm.2 a h0 ha⟩
def gv (h : ma_H) (A : Nat → Nat → Nat) : Prop := ∀ j c, j < 6 → c < 7 → h.1 197 (7 * j + c) = nI (A j c)
abbrev sJ (l : Launch) (g : ma_G) (x : Bool) (Q : ma_P) : ma_K := ma_J l g x none me_Mod_solved pr_Mod_solved Q
theorem so_mul (a b : Nat) : nI 7 * nI a + nI b = nI (7 * a + b) := by rw [pk_mul, nI_add]
theorem so_uI {h : ma_H} {j c i d : Nat} {v : Int32} (hd : d < 7) (hc : c < 7) : (ma_uI h 197 (7 * j + c) v).1 197 (7 * i + d) = if i = j ∧ d = c then v else h.1 197 (7 * i + d) := by
  by_cases e : i = j ∧ d = c
  · rw [if_pos e, e.1, e.2, uI_same]
  · rw [if_neg e, uI_ne (fun q => e (by have := q.2; omega))]
section
variable {l : Launch} {g : ma_G} {x : Bool} {Q : ma_P} {n : Nat} {c p : Nat → Nat}
set_option maxRecDepth 30000 in
theorem so_sum {h : ma_H} (hp : pt_ok h) (hm : mt_ok h) (hc : ∀ s, s < 16 → c s < 256) (h1 : ar h 196 16 c) {j : Nat} (hj : j < 6) (hK : sJ l g x Q 28 [some (.ref 184), some (.int (nI n)), some (.int (nI j)), some (.int (nI (gf_sy c j))), none, none, none, none] [] 0 0 GS h) : ∀ m s, s + m = 16 → sJ l g x Q 9 [some (.ref 184), some (.int (nI n)), some (.int (nI j)), some (.int (nI (gf_s s (fun s => gf_m (c s) (gf_ex (j * s)))))), some (.int (nI s)), none, none, none] [] 0 0 GS h := by
  intro m
  induction m with
  | zero =>
    intro s hs
    refine ma_run0 po_Mod_solved rfl rfl [9, 28] 60 ?_
    simp only [pc_Mod_solved_0, pc_Mod_solved_1, pc_Mod_solved_2, pc_Mod_solved_3, pc_Mod_solved_4, pc_Mod_solved_5, pc_Mod_solved_6, ma_go, ev_A, ev_B, ev_C, ev_D, Nat.reduceAdd, List.mem_cons, List.not_mem_nil, or_false, or_true, true_or, false_or, or_self, Nat.reduceEqDiff, reduceCtorEq, ↓reduceIte, List.length_cons, List.length_nil, Nat.reduceLT, Nat.reduceLeDiff, Nat.le_refl, implies_true, true_and, and_true, Option.toList, List.cons_append, List.nil_append]
    have e : s = 16 := by omega
    subst e
    exact ⟨fun _ => ma_J.less hK ⟨rfl, rfl, rfl, rfl, trivial⟩, fun q => absurd (nI_le (Nat.le_refl _) (by omega)) q⟩
  | succ m ih =>
    intro s hs
    have hb : j * s ≤ 5 * 15 := Nat.mul_le_mul (by omega) (by omega)
    refine ma_run0 po_Mod_solved rfl rfl [9, 28] 60 ?_
    simp only [pc_Mod_solved_0, pc_Mod_solved_1, pc_Mod_solved_2, pc_Mod_solved_3, pc_Mod_solved_4, pc_Mod_solved_5, pc_Mod_solved_6, ma_go, ev_A, ev_B, ev_C, ev_D, Nat.reduceAdd, List.mem_cons, List.not_mem_nil, or_false, or_true, true_or, false_or, or_self, Nat.reduceEqDiff, reduceCtorEq, ↓reduceIte, List.length_cons, List.length_nil, Nat.reduceLT, Nat.reduceLeDiff, Nat.le_refl, implies_true, true_and, and_true, Option.toList, List.cons_append, List.nil_append, pt_Mod hp, gs_184]
    refine ⟨fun q => absurd q (nI_ge (by omega) (by omega)), fun _ => ?_⟩
    rw [pk_mul, nI_clamp (by omega), nI_clamp (by omega), h1 s (by omega), hm.1 (j * s) (by omega)]
    refine ⟨ma_in_of gs_196 (by omega) (by decide), ma_in_of gs_199 (by omega) (by decide), ?_⟩
    refine ma_callD mt_Mod_times rfl rfl (Nat.le_of_ble_eq_true rfl) (Nat.le_refl _) (Nat.le_refl _) (m_mtimes l g x GS h (hc s (by omega)) (gf_ex_pos _).2) ?_
    simp only [pc_Mod_solved_0, pc_Mod_solved_1, pc_Mod_solved_2, pc_Mod_solved_3, pc_Mod_solved_4, pc_Mod_solved_5, pc_Mod_solved_6, ma_go, ev_A, ev_B, ev_C, ev_D, Nat.reduceAdd, List.mem_cons, List.not_mem_nil, or_false, or_true, true_or, false_or, or_self, Nat.reduceEqDiff, reduceCtorEq, ↓reduceIte, List.length_cons, List.length_nil, Nat.reduceLT, Nat.reduceLeDiff, Nat.le_refl, implies_true, true_and, and_true, Option.toList, List.cons_append, List.nil_append]
    rw [nx_xor, nx_1]
    exact ih (s + 1) (by omega)
/-- the rows up to j, and of the row j the first k places -/
def so_pt (h : ma_H) (S p : Nat → Nat) (n j k : Nat) : Prop := ∀ i d, d < 7 → (i < j ∨ (i = j ∧ d < k)) → h.1 197 (7 * i + d) = nI (ga_0 S p n i d)
theorem so_pt_put {h : ma_H} {S p : Nat → Nat} {n j k : Nat} (hk : k < 7) (hh : so_pt h S p n j k) {v : Int32} (hv : v = nI (ga_0 S p n j k)) : so_pt (ma_uI h 197 (7 * j + k) v) S p n j (k + 1) := by
  intro i d hd hi
  rw [so_uI hd hk]
  by_cases e : i = j ∧ d = k
  · rw [if_pos e, e.1, e.2]; exact hv
  · rw [if_neg e]; exact hh i d hd (by omega)
set_option maxRecDepth 30000 in
theorem so_z {h0 : ma_H} (hp : pt_ok h0) (hn : n ≤ 6) {S : Nat → Nat} {j : Nat} (hj : j < 6) {sm : Int32} (hK : ∀ h, on h0 h [197] → so_pt h S p n j 6 → sJ l g x Q 68 [some (.ref 184), some (.int (nI n)), some (.int (nI j)), some (.int sm), none, none, none, none] [] 0 0 GS h) : ∀ m k h, k + m = 6 → n ≤ k → on h0 h [197] → so_pt h S p n j k → sJ l g x Q 54 [some (.ref 184), some (.int (nI n)), some (.int (nI j)), some (.int sm), some (.int (nI k)), none, none, none] [] 0 0 GS h := by
  intro m
  induction m with
  | zero =>
    intro k h hk hnk ho hh
    refine ma_run0 po_Mod_solved rfl rfl [54, 68] 60 ?_
    simp only [pc_Mod_solved_0, pc_Mod_solved_1, pc_Mod_solved_2, pc_Mod_solved_3, pc_Mod_solved_4, pc_Mod_solved_5, pc_Mod_solved_6, ma_go, ev_A, ev_B, ev_C, ev_D, Nat.reduceAdd, List.mem_cons, List.not_mem_nil, or_false, or_true, true_or, false_or, or_self, Nat.reduceEqDiff, reduceCtorEq, ↓reduceIte, List.length_cons, List.length_nil, Nat.reduceLT, Nat.reduceLeDiff, Nat.le_refl, implies_true, true_and, and_true, Option.toList, List.cons_append, List.nil_append]
    have e : k = 6 := by omega
    subst e
    exact ⟨fun _ => ma_J.less (hK h ho hh) ⟨rfl, rfl, rfl, rfl, trivial⟩, fun q => absurd (nI_le (Nat.le_refl _) (by omega)) q⟩
  | succ m ih =>
    intro k h hk hnk ho hh
    refine ma_run0 po_Mod_solved rfl rfl [54, 68] 60 ?_
    simp only [pc_Mod_solved_0, pc_Mod_solved_1, pc_Mod_solved_2, pc_Mod_solved_3, pc_Mod_solved_4, pc_Mod_solved_5, pc_Mod_solved_6, ma_go, ev_A, ev_B, ev_C, ev_D, Nat.reduceAdd, List.mem_cons, List.not_mem_nil, or_false, or_true, true_or, false_or, or_self, Nat.reduceEqDiff, reduceCtorEq, ↓reduceIte, List.length_cons, List.length_nil, Nat.reduceLT, Nat.reduceLeDiff, Nat.le_refl, implies_true, true_and, and_true, Option.toList, List.cons_append, List.nil_append, pt_Mod (on_pt ho hp), gs_184]
    rw [so_mul, nI_clamp (by omega), nx_1]
    exact ⟨fun q => absurd q (nI_ge (by omega) (by omega)), fun _ => ⟨ma_in_of gs_197 (by omega) (by decide), ih (k + 1) _ (by omega) (by omega) (on_uI ho _ _ (by simp)) (so_pt_put (by omega) hh (by rw [ga_0, if_neg (by omega), if_pos (by omega)]))⟩⟩
set_option maxRecDepth 30000 in
theorem so_f {h0 : ma_H} (hp : pt_ok h0) (hm : mt_ok h0) (hn : n ≤ 6) (hpl : ∀ k, k < n → p k < 16) (h1 : ar h0 198 n p) {S : Nat → Nat} {j : Nat} (hj : j < 6) {sm : Int32} (hK : ∀ h, on h0 h [197] → so_pt h S p n j 6 → sJ l g x Q 68 [some (.ref 184), some (.int (nI n)), some (.int (nI j)), some (.int sm), none, none, none, none] [] 0 0 GS h) : ∀ m k h, k + m = n → on h0 h [197] → so_pt h S p n j k → sJ l g x Q 30 [some (.ref 184), some (.int (nI n)), some (.int (nI j)), some (.int sm), some (.int (nI k)), none, none, none] [] 0 0 GS h := by
  intro m
  induction m with
  | zero =>
    intro k h hk ho hh
    refine ma_run0 po_Mod_solved rfl rfl [30, 54] 60 ?_
    simp only [pc_Mod_solved_0, pc_Mod_solved_1, pc_Mod_solved_2, pc_Mod_solved_3, pc_Mod_solved_4, pc_Mod_solved_5, pc_Mod_solved_6, ma_go, ev_A, ev_B, ev_C, ev_D, Nat.reduceAdd, List.mem_cons, List.not_mem_nil, or_false, or_true, true_or, false_or, or_self, Nat.reduceEqDiff, reduceCtorEq, ↓reduceIte, List.length_cons, List.length_nil, Nat.reduceLT, Nat.reduceLeDiff, Nat.le_refl, implies_true, true_and, and_true, Option.toList, List.cons_append, List.nil_append]
    have e : k = n := by omega
    subst e
    exact ⟨fun _ => so_z hp hn hj hK (6 - k) k h (by omega) (Nat.le_refl _) ho hh, fun q => absurd (nI_le (Nat.le_refl _) (by omega)) q⟩
  | succ m ih =>
    intro k h hk ho hh
    have h2 := ar_on ho (by decide) h1
    have h3 := mt_on ho (by decide) (by decide) hm
    have hpk := hpl k (by omega)
    have hb : j * p k ≤ 5 * 15 := Nat.mul_le_mul (by omega) (by omega)
    refine ma_run0 po_Mod_solved rfl rfl [30, 54] 60 ?_
    simp only [pc_Mod_solved_0, pc_Mod_solved_1, pc_Mod_solved_2, pc_Mod_solved_3, pc_Mod_solved_4, pc_Mod_solved_5, pc_Mod_solved_6, ma_go, ev_A, ev_B, ev_C, ev_D, Nat.reduceAdd, List.mem_cons, List.not_mem_nil, or_false, or_true, true_or, false_or, or_self, Nat.reduceEqDiff, reduceCtorEq, ↓reduceIte, List.length_cons, List.length_nil, Nat.reduceLT, Nat.reduceLeDiff, Nat.le_refl, implies_true, true_and, and_true, Option.toList, List.cons_append, List.nil_append, pt_Mod (on_pt ho hp), gs_184]
    rw [so_mul, nI_clamp (n := k) (by omega), h2 k (by omega), pk_mul, nI_clamp (n := j * p k) (by omega), h3.1 _ (by omega), nI_clamp (n := 7 * j + k) (by omega), nx_1]
    exact ⟨fun q => absurd q (nI_ge (by omega) (by omega)), fun _ => ⟨ma_in_of gs_198 (by omega) (by decide), ma_in_of gs_199 (by omega) (by decide), ma_in_of gs_197 (by omega) (by decide), ih (k + 1) _ (by omega) (on_uI ho _ _ (by simp)) (so_pt_put (by omega) hh (by rw [ga_0, if_pos (by omega)]))⟩⟩
set_option maxRecDepth 30000 in
theorem so_rows {h0 : ma_H} (hp : pt_ok h0) (hm : mt_ok h0) (hc : ∀ s, s < 16 → c s < 256) (h1 : ar h0 196 16 c) (hn : n ≤ 6) (hpl : ∀ k, k < n → p k < 16) (h2 : ar h0 198 n p) (hK : ∀ h, on h0 h [197] → gv h (ga_0 (gf_sy c) p n) → sJ l g x Q 79 [some (.ref 184), some (.int (nI n)), none, none, none, none, none, none] [] 0 0 GS h) : ∀ m j h, j + m = 6 → on h0 h [197] → so_pt h (gf_sy c) p n j 0 → sJ l g x Q 2 [some (.ref 184), some (.int (nI n)), some (.int (nI j)), none, none, none, none, none] [] 0 0 GS h := by
  intro m
  induction m with
  | zero =>
    intro j h hj ho hh
    refine ma_run0 po_Mod_solved rfl rfl [2, 79] 60 ?_
    simp only [pc_Mod_solved_0, pc_Mod_solved_1, pc_Mod_solved_2, pc_Mod_solved_3, pc_Mod_solved_4, pc_Mod_solved_5, pc_Mod_solved_6, ma_go, ev_A, ev_B, ev_C, ev_D, Nat.reduceAdd, List.mem_cons, List.not_mem_nil, or_false, or_true, true_or, false_or, or_self, Nat.reduceEqDiff, reduceCtorEq, ↓reduceIte, List.length_cons, List.length_nil, Nat.reduceLT, Nat.reduceLeDiff, Nat.le_refl, implies_true, true_and, and_true, Option.toList, List.cons_append, List.nil_append]
    have e : j = 6 := by omega
    subst e
    exact ⟨fun _ => ma_J.less (hK h ho (fun i d hi hd => hh i d hd (Or.inl hi))) ⟨rfl, rfl, trivial⟩, fun q => absurd (nI_le (Nat.le_refl _) (by omega)) q⟩
  | succ m ih =>
    intro j h hj ho hh
    have hp' := on_pt ho hp
    have hm' := mt_on ho (by decide) (by decide) hm
    refine ma_run0 po_Mod_solved rfl rfl [2, 9] 60 ?_
    simp only [pc_Mod_solved_0, pc_Mod_solved_1, pc_Mod_solved_2, pc_Mod_solved_3, pc_Mod_solved_4, pc_Mod_solved_5, pc_Mod_solved_6, ma_go, ev_A, ev_B, ev_C, ev_D, Nat.reduceAdd, List.mem_cons, List.not_mem_nil, or_false, or_true, true_or, false_or, or_self, Nat.reduceEqDiff, reduceCtorEq, ↓reduceIte, List.length_cons, List.length_nil, Nat.reduceLT, Nat.reduceLeDiff, Nat.le_refl, implies_true, true_and, and_true, Option.toList, List.cons_append, List.nil_append]
    refine ⟨fun q => absurd q (nI_ge (by omega) (by omega)), fun _ => ?_⟩
    refine so_sum hp' hm' hc (ar_on ho (by decide) h1) (by omega) ?_ 16 0 rfl
    refine ma_run0 po_Mod_solved rfl rfl [30] 60 ?_
    simp only [pc_Mod_solved_0, pc_Mod_solved_1, pc_Mod_solved_2, pc_Mod_solved_3, pc_Mod_solved_4, pc_Mod_solved_5, pc_Mod_solved_6, ma_go, ev_A, ev_B, ev_C, ev_D, Nat.reduceAdd, List.mem_cons, List.not_mem_nil, or_false, or_true, true_or, false_or, or_self, Nat.reduceEqDiff, reduceCtorEq, ↓reduceIte, List.length_cons, List.length_nil, Nat.reduceLT, Nat.reduceLeDiff, Nat.le_refl, implies_true, true_and, and_true, Option.toList, List.cons_append, List.nil_append]
    refine so_f hp' hm' hn hpl (ar_on ho (by decide) h2) (by omega) (fun h3 ho3 hh3 => ?_) n 0 h (by omega) (on_rf h _) hh
    have ho4 := on_tr ho ho3
    refine ma_run0 po_Mod_solved rfl rfl [2] 60 ?_
    simp only [pc_Mod_solved_0, pc_Mod_solved_1, pc_Mod_solved_2, pc_Mod_solved_3, pc_Mod_solved_4, pc_Mod_solved_5, pc_Mod_solved_6, ma_go, ev_A, ev_B, ev_C, ev_D, Nat.reduceAdd, List.mem_cons, List.not_mem_nil, or_false, or_true, true_or, false_or, or_self, Nat.reduceEqDiff, reduceCtorEq, ↓reduceIte, List.length_cons, List.length_nil, Nat.reduceLT, Nat.reduceLeDiff, Nat.le_refl, implies_true, true_and, and_true, Option.toList, List.cons_append, List.nil_append, pt_Mod (on_pt ho4 hp), gs_184]
    rw [so_mul, nI_clamp (by omega), nx_1]
    refine ⟨ma_in_of gs_197 (by omega) (by decide), ma_J.less (ih (j + 1) _ (by omega) (on_uI ho4 _ _ (by simp)) ?_) ⟨rfl, rfl, rfl, trivial⟩⟩
    have h5 := so_pt_put (v := nI (gf_sy c j)) (by decide) hh3 (by rw [ga_0, if_neg (by omega), if_neg (by omega)])
    intro i d hd hi
    exact h5 i d hd (by omega)
end
