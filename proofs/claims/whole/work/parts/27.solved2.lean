/-! the reference's solved: swap, scale, eliminate, the end -/
/-- the first d columns of B, the others of A -/
def ga_pp (d : Nat) (B A : Nat → Nat → Nat) : Nat → Nat → Nat := fun i e => if e < d then B i e else A i e
theorem pp_y {d : Nat} {B A : Nat → Nat → Nat} {i e : Nat} (h : e < d) : ga_pp d B A i e = B i e := if_pos h
theorem pp_n {d : Nat} {B A : Nat → Nat → Nat} {i e : Nat} (h : ¬ e < d) : ga_pp d B A i e = A i e := if_neg h
section
variable {l : Launch} {g : ma_G} {x : Bool} {Q : ma_P} {n : Nat} {c p : Nat → Nat}
set_option maxRecDepth 30000 in
theorem so_swap {h0 : ma_H} (hp : pt_ok h0) {A : Nat → Nat → Nat} {k r : Nat} (hk : k < 6) (hr : r < 6) (hK : ∀ h, on h0 h [197] → gv h (ga_sw A r k) → sJ l g x Q 146 [some (.ref 184), some (.int (nI n)), some (.int (nI k)), some (.int (nI r)), none, none, none, none] [] 0 0 GS h) : ∀ m d h, d + m = 7 → on h0 h [197] → gv h (ga_pp d (ga_sw A r k) A) → sJ l g x Q 107 [some (.ref 184), some (.int (nI n)), some (.int (nI k)), some (.int (nI r)), some (.int (nI d)), none, none, none] [] 0 0 GS h := by
  intro m
  induction m with
  | zero =>
    intro d h hd ho hh
    refine ma_run0 po_Mod_solved rfl rfl [107, 146] 60 ?_
    simp only [pc_Mod_solved_0, pc_Mod_solved_1, pc_Mod_solved_2, pc_Mod_solved_3, pc_Mod_solved_4, pc_Mod_solved_5, pc_Mod_solved_6, ma_go, ev_A, ev_B, ev_C, ev_D, Nat.reduceAdd, List.mem_cons, List.not_mem_nil, or_false, or_true, true_or, false_or, or_self, Nat.reduceEqDiff, reduceCtorEq, ↓reduceIte, List.length_cons, List.length_nil, Nat.reduceLT, Nat.reduceLeDiff, Nat.le_refl, implies_true, true_and, and_true, Option.toList, List.cons_append, List.nil_append]
    have e : d = 7 := by omega
    subst e
    exact ⟨fun _ => ma_J.less (hK h ho (fun i e hi he => by rw [hh i e hi he, pp_y he])) ⟨rfl, rfl, rfl, rfl, trivial⟩, fun q => absurd (nI_le (Nat.le_refl _) (by omega)) q⟩
  | succ m ih =>
    intro d h hd ho hh
    refine ma_run0 po_Mod_solved rfl rfl [107, 146] 60 ?_
    simp only [pc_Mod_solved_0, pc_Mod_solved_1, pc_Mod_solved_2, pc_Mod_solved_3, pc_Mod_solved_4, pc_Mod_solved_5, pc_Mod_solved_6, ma_go, ev_A, ev_B, ev_C, ev_D, Nat.reduceAdd, List.mem_cons, List.not_mem_nil, or_false, or_true, true_or, false_or, or_self, Nat.reduceEqDiff, reduceCtorEq, ↓reduceIte, List.length_cons, List.length_nil, Nat.reduceLT, Nat.reduceLeDiff, Nat.le_refl, implies_true, true_and, and_true, Option.toList, List.cons_append, List.nil_append, pt_Mod (on_pt ho hp), gs_184, uI_2]
    rw [so_mul, so_mul, nI_clamp (n := 7 * r + d) (by omega), nI_clamp (n := 7 * k + d) (by omega), nx_1, hh r d hr (by omega), hh k d hk (by omega), pp_n (Nat.lt_irrefl d), pp_n (Nat.lt_irrefl d)]
    refine ⟨fun q => absurd q (nI_ge (by omega) (by omega)), fun _ => ⟨ma_in_of gs_197 (by omega) (by decide), ma_in_of gs_197 (by omega) (by decide), ma_in_of gs_197 (by omega) (by decide), ma_in_of gs_197 (by omega) (by decide), ma_J.less (ih (d + 1) _ (by omega) (on_uI (on_uI ho _ _ (by simp)) _ _ (by simp)) (fun i e hi he => ?_)) ⟨rfl, rfl, rfl, rfl, rfl, trivial⟩⟩⟩
    rw [so_uI he (by omega), so_uI he (by omega), hh i e hi he]
    by_cases e1 : e = d
    · subst e1
      rw [pp_y (show e < e + 1 by omega), pp_n (Nat.lt_irrefl e)]
      unfold ga_sw
      by_cases e2 : i = k
      · subst e2
        rw [if_pos ⟨rfl, rfl⟩]
        by_cases e3 : i = r
        · rw [if_pos e3, e3]
        · rw [if_neg e3, if_pos rfl]
      · rw [if_neg (fun q => e2 q.1)]
        by_cases e3 : i = r
        · rw [if_pos ⟨e3, rfl⟩, if_pos e3]
        · rw [if_neg (fun q => e3 q.1), if_neg e3, if_neg e2]
    · rw [if_neg (fun q => e1 q.2), if_neg (fun q => e1 q.2)]
      by_cases e4 : e < d
      · rw [pp_y e4, pp_y (show e < d + 1 by omega)]
      · rw [pp_n e4, pp_n (show ¬ e < d + 1 by omega)]
set_option maxRecDepth 30000 in
theorem so_scale {h0 : ma_H} (hp : pt_ok h0) {A : Nat → Nat → Nat} (hA : ga_lt A) {k t : Nat} (hk : k < 6) (ht : t < 256) {rr : Option Value} (hK : ∀ h, on h0 h [197] → gv h (ga_sc A k t) → sJ l g x Q 183 [some (.ref 184), some (.int (nI n)), some (.int (nI k)), none, none, none, none, none] [] 0 0 GS h) : ∀ m d h, d + m = 7 → on h0 h [197] → gv h (ga_pp d (ga_sc A k t) A) → sJ l g x Q 160 [some (.ref 184), some (.int (nI n)), some (.int (nI k)), rr, some (.int (nI t)), some (.int (nI d)), none, none] [] 0 0 GS h := by
  intro m
  induction m with
  | zero =>
    intro d h hd ho hh
    refine ma_run0 po_Mod_solved rfl rfl [160, 183] 60 ?_
    simp only [pc_Mod_solved_0, pc_Mod_solved_1, pc_Mod_solved_2, pc_Mod_solved_3, pc_Mod_solved_4, pc_Mod_solved_5, pc_Mod_solved_6, ma_go, ev_A, ev_B, ev_C, ev_D, Nat.reduceAdd, List.mem_cons, List.not_mem_nil, or_false, or_true, true_or, false_or, or_self, Nat.reduceEqDiff, reduceCtorEq, ↓reduceIte, List.length_cons, List.length_nil, Nat.reduceLT, Nat.reduceLeDiff, Nat.le_refl, implies_true, true_and, and_true, Option.toList, List.cons_append, List.nil_append]
    have e : d = 7 := by omega
    subst e
    exact ⟨fun _ => ma_J.less (hK h ho (fun i e hi he => by rw [hh i e hi he, pp_y he])) ⟨rfl, rfl, rfl, trivial⟩, fun q => absurd (nI_le (Nat.le_refl _) (by omega)) q⟩
  | succ m ih =>
    intro d h hd ho hh
    refine ma_run0 po_Mod_solved rfl rfl [160, 183] 60 ?_
    simp only [pc_Mod_solved_0, pc_Mod_solved_1, pc_Mod_solved_2, pc_Mod_solved_3, pc_Mod_solved_4, pc_Mod_solved_5, pc_Mod_solved_6, ma_go, ev_A, ev_B, ev_C, ev_D, Nat.reduceAdd, List.mem_cons, List.not_mem_nil, or_false, or_true, true_or, false_or, or_self, Nat.reduceEqDiff, reduceCtorEq, ↓reduceIte, List.length_cons, List.length_nil, Nat.reduceLT, Nat.reduceLeDiff, Nat.le_refl, implies_true, true_and, and_true, Option.toList, List.cons_append, List.nil_append, pt_Mod (on_pt ho hp), gs_184]
    rw [so_mul, nI_clamp (n := 7 * k + d) (by omega), hh k d hk (by omega), pp_n (Nat.lt_irrefl d)]
    refine ⟨fun q => absurd q (nI_ge (by omega) (by omega)), fun _ => ⟨ma_in_of gs_197 (by omega) (by decide), ?_⟩⟩
    refine ma_callD mt_Mod_times rfl rfl (Nat.le_of_ble_eq_true rfl) (Nat.le_refl _) (Nat.le_refl _) (m_mtimes l g x GS h (hA k d) ht) ?_
    simp only [pc_Mod_solved_0, pc_Mod_solved_1, pc_Mod_solved_2, pc_Mod_solved_3, pc_Mod_solved_4, pc_Mod_solved_5, pc_Mod_solved_6, ma_go, ev_A, ev_B, ev_C, ev_D, Nat.reduceAdd, List.mem_cons, List.not_mem_nil, or_false, or_true, true_or, false_or, or_self, Nat.reduceEqDiff, reduceCtorEq, ↓reduceIte, List.length_cons, List.length_nil, Nat.reduceLT, Nat.reduceLeDiff, Nat.le_refl, implies_true, true_and, and_true, Option.toList, List.cons_append, List.nil_append]
    rw [nI_clamp (n := 7 * k + d) (by omega), nx_1]
    refine ⟨ma_in_of gs_197 (by omega) (by decide), ih (d + 1) _ (by omega) (on_uI ho _ _ (by simp)) (fun i e hi he => ?_)⟩
    rw [so_uI he (by omega), hh i e hi he]
    by_cases e1 : e = d
    · subst e1
      rw [pp_y (show e < e + 1 by omega), pp_n (Nat.lt_irrefl e)]
      unfold ga_sc
      by_cases e2 : i = k
      · subst e2; rw [if_pos ⟨rfl, rfl⟩, if_pos rfl]
      · rw [if_neg (fun q => e2 q.1), if_neg e2]
    · rw [if_neg (fun q => e1 q.2)]
      by_cases e4 : e < d
      · rw [pp_y e4, pp_y (show e < d + 1 by omega)]
      · rw [pp_n e4, pp_n (show ¬ e < d + 1 by omega)]
set_option maxRecDepth 30000 in
theorem so_elim {h0 : ma_H} (hp : pt_ok h0) {A : Nat → Nat → Nat} (hA : ga_lt A) {k o : Nat} (hk : k < 6) (ho6 : o < 6) {ra rb : Option Value} (hK : ∀ h, on h0 h [197] → gv h (ga_el A k o) → sJ l g x Q 228 [some (.ref 184), some (.int (nI n)), some (.int (nI k)), none, none, some (.int (nI o)), none, none] [] 0 0 GS h) : ∀ m d h, d + m = 7 → on h0 h [197] → gv h (ga_pp d (ga_el A k o) A) → sJ l g x Q 199 [some (.ref 184), some (.int (nI n)), some (.int (nI k)), ra, rb, some (.int (nI o)), some (.int (nI (A o k))), some (.int (nI d))] [] 0 0 GS h := by
  intro m
  induction m with
  | zero =>
    intro d h hd ho hh
    have e : d = 7 := by omega
    subst e
    have hf := hK h ho (fun i e hi he => by rw [hh i e hi he, pp_y he])
    refine ma_run0 po_Mod_solved rfl rfl [199, 228] 60 ?_
    simp only [pc_Mod_solved_0, pc_Mod_solved_1, pc_Mod_solved_2, pc_Mod_solved_3, pc_Mod_solved_4, pc_Mod_solved_5, pc_Mod_solved_6, ma_go, ev_A, ev_B, ev_C, ev_D, Nat.reduceAdd, List.mem_cons, List.not_mem_nil, or_false, or_true, true_or, false_or, or_self, Nat.reduceEqDiff, reduceCtorEq, ↓reduceIte, List.length_cons, List.length_nil, Nat.reduceLT, Nat.reduceLeDiff, Nat.le_refl, implies_true, true_and, and_true, Option.toList, List.cons_append, List.nil_append]
    exact ⟨fun _ => ma_J.less hf ⟨rfl, rfl, rfl, rfl, trivial⟩, fun q => absurd (nI_le (Nat.le_refl _) (by omega)) q⟩
  | succ m ih =>
    intro d h hd ho hh
    by_cases hok : o = k
    · have hf := hK h ho (fun i e hi he => by
        have : ga_el A k o i e = A i e := if_neg (fun q => q.2 hok)
        rw [hh i e hi he, this]
        by_cases e4 : e < d
        · rw [pp_y e4, this]
        · rw [pp_n e4])
      refine ma_run0 po_Mod_solved rfl rfl [199, 228] 60 ?_
      simp only [pc_Mod_solved_0, pc_Mod_solved_1, pc_Mod_solved_2, pc_Mod_solved_3, pc_Mod_solved_4, pc_Mod_solved_5, pc_Mod_solved_6, ma_go, ev_A, ev_B, ev_C, ev_D, Nat.reduceAdd, List.mem_cons, List.not_mem_nil, or_false, or_true, true_or, false_or, or_self, Nat.reduceEqDiff, reduceCtorEq, ↓reduceIte, List.length_cons, List.length_nil, Nat.reduceLT, Nat.reduceLeDiff, Nat.le_refl, implies_true, true_and, and_true, Option.toList, List.cons_append, List.nil_append, pt_Mod (on_pt ho hp), gs_184]
      exact ⟨fun q => absurd q (nI_ge (by omega) (by omega)), fun _ => ⟨fun _ => ma_J.less hf ⟨rfl, rfl, rfl, rfl, trivial⟩, fun q => absurd (by rw [hok]) q⟩⟩
    · refine ma_run0 po_Mod_solved rfl rfl [199, 228] 60 ?_
      simp only [pc_Mod_solved_0, pc_Mod_solved_1, pc_Mod_solved_2, pc_Mod_solved_3, pc_Mod_solved_4, pc_Mod_solved_5, pc_Mod_solved_6, ma_go, ev_A, ev_B, ev_C, ev_D, Nat.reduceAdd, List.mem_cons, List.not_mem_nil, or_false, or_true, true_or, false_or, or_self, Nat.reduceEqDiff, reduceCtorEq, ↓reduceIte, List.length_cons, List.length_nil, Nat.reduceLT, Nat.reduceLeDiff, Nat.le_refl, implies_true, true_and, and_true, Option.toList, List.cons_append, List.nil_append, pt_Mod (on_pt ho hp), gs_184]
      have e9 : ga_el A k o k d = A k d := if_neg (fun q => hok q.1.symm)
      rw [so_mul, so_mul, nI_clamp (n := 7 * o + d) (by omega), nI_clamp (n := 7 * k + d) (by omega), hh o d ho6 (by omega), hh k d hk (by omega), pp_n (Nat.lt_irrefl d), pp_n (Nat.lt_irrefl d)]
      refine ⟨fun q => absurd q (nI_ge (by omega) (by omega)), fun _ => ⟨fun q => absurd ((nI_eq (by omega) (by omega)).mp q) hok, fun _ => ⟨ma_in_of gs_197 (by omega) (by decide), ma_in_of gs_197 (by omega) (by decide), ?_⟩⟩⟩
      refine ma_callD mt_Mod_times rfl rfl (Nat.le_of_ble_eq_true rfl) (Nat.le_refl _) (Nat.le_refl _) (m_mtimes l g x GS h (hA o k) (hA k d)) ?_
      simp only [pc_Mod_solved_0, pc_Mod_solved_1, pc_Mod_solved_2, pc_Mod_solved_3, pc_Mod_solved_4, pc_Mod_solved_5, pc_Mod_solved_6, ma_go, ev_A, ev_B, ev_C, ev_D, Nat.reduceAdd, List.mem_cons, List.not_mem_nil, or_false, or_true, true_or, false_or, or_self, Nat.reduceEqDiff, reduceCtorEq, ↓reduceIte, List.length_cons, List.length_nil, Nat.reduceLT, Nat.reduceLeDiff, Nat.le_refl, implies_true, true_and, and_true, Option.toList, List.cons_append, List.nil_append]
      rw [nx_xor, nI_clamp (n := 7 * o + d) (by omega), nx_1]
      refine ⟨ma_in_of gs_197 (by omega) (by decide), ih (d + 1) _ (by omega) (on_uI ho _ _ (by simp)) (fun i e hi he => ?_)⟩
      rw [so_uI he (by omega), hh i e hi he]
      by_cases e1 : e = d
      · subst e1
        rw [pp_y (show e < e + 1 by omega), pp_n (Nat.lt_irrefl e)]
        unfold ga_el
        by_cases e2 : i = o
        · subst e2; rw [if_pos ⟨rfl, rfl⟩, if_pos ⟨rfl, hok⟩]
        · rw [if_neg (fun q => e2 q.1), if_neg (fun q => e2 q.1)]
      · rw [if_neg (fun q => e1 q.2)]
        by_cases e4 : e < d
        · rw [pp_y e4, pp_y (show e < d + 1 by omega)]
        · rw [pp_n e4, pp_n (show ¬ e < d + 1 by omega)]
/-- the rows up to o are eliminated -/
def ga_es (A : Nat → Nat → Nat) (k : Nat) : Nat → Nat → Nat → Nat
  | 0 => A
  | o + 1 => ga_el (ga_es A k o) k o
theorem ga_es_lt {A : Nat → Nat → Nat} (hA : ga_lt A) (k : Nat) : ∀ o, ga_lt (ga_es A k o)
  | 0 => hA
  | o + 1 => ga_el_lt (ga_es_lt hA k o) k o
theorem ga_es_sat {A : Nat → Nat → Nat} (hA : ga_lt A) {k : Nat} (hk : k < 6) {u : Nat → Nat} (hu : ∀ c, u c < 256) : ∀ o, ga_sat (ga_es A k o) u ↔ ga_sat A u
  | 0 => Iff.rfl
  | o + 1 => (ga_el_sat (ga_es_lt hA k o) hk hu).trans (ga_es_sat hA hk hu o)
set_option maxRecDepth 30000 in
theorem so_elims {h0 : ma_H} (hp : pt_ok h0) {A : Nat → Nat → Nat} (hA : ga_lt A) {k : Nat} (hk : k < 6) (hK : ∀ h, on h0 h [197] → gv h (ga_es A k 6) → sJ l g x Q 230 [some (.ref 184), some (.int (nI n)), some (.int (nI k)), none, none, none, none, none] [] 0 0 GS h) : ∀ m o h, o + m = 6 → on h0 h [197] → gv h (ga_es A k o) → sJ l g x Q 185 [some (.ref 184), some (.int (nI n)), some (.int (nI k)), none, none, some (.int (nI o)), none, none] [] 0 0 GS h := by
  intro m
  induction m with
  | zero =>
    intro o h ho6 ho hh
    have e : o = 6 := by omega
    subst e
    refine ma_run0 po_Mod_solved rfl rfl [185, 230] 60 ?_
    simp only [pc_Mod_solved_0, pc_Mod_solved_1, pc_Mod_solved_2, pc_Mod_solved_3, pc_Mod_solved_4, pc_Mod_solved_5, pc_Mod_solved_6, ma_go, ev_A, ev_B, ev_C, ev_D, Nat.reduceAdd, List.mem_cons, List.not_mem_nil, or_false, or_true, true_or, false_or, or_self, Nat.reduceEqDiff, reduceCtorEq, ↓reduceIte, List.length_cons, List.length_nil, Nat.reduceLT, Nat.reduceLeDiff, Nat.le_refl, implies_true, true_and, and_true, Option.toList, List.cons_append, List.nil_append]
    exact ⟨fun _ => ma_J.less (hK h ho hh) ⟨rfl, rfl, rfl, trivial⟩, fun q => absurd (nI_le (Nat.le_refl _) (by omega)) q⟩
  | succ m ih =>
    intro o h ho6 ho hh
    refine ma_run0 po_Mod_solved rfl rfl [185, 199, 230] 60 ?_
    simp only [pc_Mod_solved_0, pc_Mod_solved_1, pc_Mod_solved_2, pc_Mod_solved_3, pc_Mod_solved_4, pc_Mod_solved_5, pc_Mod_solved_6, ma_go, ev_A, ev_B, ev_C, ev_D, Nat.reduceAdd, List.mem_cons, List.not_mem_nil, or_false, or_true, true_or, false_or, or_self, Nat.reduceEqDiff, reduceCtorEq, ↓reduceIte, List.length_cons, List.length_nil, Nat.reduceLT, Nat.reduceLeDiff, Nat.le_refl, implies_true, true_and, and_true, Option.toList, List.cons_append, List.nil_append, pt_Mod (on_pt ho hp), gs_184]
    rw [so_mul, nI_clamp (n := 7 * o + k) (by omega), hh o k (by omega) (by omega)]
    refine ⟨fun q => absurd q (nI_ge (by omega) (by omega)), fun _ => ⟨ma_in_of gs_197 (by omega) (by decide), ?_⟩⟩
    refine so_elim hp (ga_es_lt hA k o) hk (by omega) (fun h2 ho2 hh2 => ?_) 7 0 h (by omega) ho (fun i e hi he => by rw [hh i e hi he, pp_n (by omega)])
    refine ma_run0 po_Mod_solved rfl rfl [185] 60 ?_
    simp only [pc_Mod_solved_0, pc_Mod_solved_1, pc_Mod_solved_2, pc_Mod_solved_3, pc_Mod_solved_4, pc_Mod_solved_5, pc_Mod_solved_6, ma_go, ev_A, ev_B, ev_C, ev_D, Nat.reduceAdd, List.mem_cons, List.not_mem_nil, or_false, or_true, true_or, false_or, or_self, Nat.reduceEqDiff, reduceCtorEq, ↓reduceIte, List.length_cons, List.length_nil, Nat.reduceLT, Nat.reduceLeDiff, Nat.le_refl, implies_true, true_and, and_true, Option.toList, List.cons_append, List.nil_append]
    rw [nx_1]
    exact ih (o + 1) h2 (by omega) ho2 hh2
theorem es_row {A : Nat → Nat → Nat} {k : Nat} : ∀ o i e, i < o ∨ o ≤ i → (i < o ∧ i ≠ k → ga_es A k o i e = A i e ^^^ gf_m (A i k) (A k e)) ∧ (¬ (i < o ∧ i ≠ k) → ga_es A k o i e = A i e)
  | 0, i, e, _ => ⟨fun q => by omega, fun _ => rfl⟩
  | o + 1, i, e, _ => by
    have ih := fun i e => es_row (A := A) (k := k) o i e (by omega)
    have hk : ∀ e, ga_es A k o k e = A k e := fun e => (ih k e).2 (fun q => q.2 rfl)
    show (_ → ga_el (ga_es A k o) k o i e = _) ∧ (_ → ga_el (ga_es A k o) k o i e = _)
    unfold ga_el
    by_cases e1 : i = o
    · subst e1
      by_cases e2 : i = k
      · rw [if_neg (fun q => q.2 e2)]
        exact ⟨fun q => absurd e2 q.2, fun _ => (ih i e).2 (fun q => q.2 e2)⟩
      · rw [if_pos ⟨rfl, e2⟩, hk, (ih i e).2 (fun q => by omega), (ih i k).2 (fun q => by omega)]
        exact ⟨fun _ => rfl, fun q => absurd ⟨by omega, e2⟩ q⟩
    · rw [if_neg (fun q => e1 q.1)]
      exact ⟨fun q => (ih i e).1 ⟨by omega, q.2⟩, fun q => (ih i e).2 (fun z => q ⟨by omega, z.2⟩)⟩
/-- a column done: one more column of the unit -/
theorem ga_step {A : Nat → Nat → Nat} {k r m t : Nat} (hA : ga_lt A) (hu : ga_un A k m) (hk : k < m) (hm : m ≤ 6) (hr : k ≤ r) (hr6 : r < 6) (ht : gf_m (A r k) t = 1) : ga_un (ga_es (ga_sc (ga_sw A r k) k t) k 6) (k + 1) m := by
  have hs : ∀ i e, i ≠ k → ga_sc (ga_sw A r k) k t i e = ga_sw A r k i e := fun i e h => if_neg h
  have hsk : ∀ e, ga_sc (ga_sw A r k) k t k e = gf_m (A r e) t := fun e => by
    rw [show ga_sc (ga_sw A r k) k t k e = gf_m (ga_sw A r k k e) t from if_pos rfl]
    congr 1
    unfold ga_sw
    by_cases e1 : k = r
    · rw [if_pos e1, e1]
    · rw [if_neg e1, if_pos rfl]
  have hw : ∀ i e, i < 6 → e < k → ga_sw A r k i e = if i = e then 1 else 0 := fun i e hi he => by
    unfold ga_sw
    by_cases e1 : i = r
    · rw [if_pos e1, hu.1 k e (by omega) he, if_neg (by omega), if_neg (by omega)]
    · rw [if_neg e1]
      by_cases e2 : i = k
      · rw [if_pos e2, hu.1 r e hr6 he, if_neg (by omega), if_neg (by omega)]
      · rw [if_neg e2, hu.1 i e hi he]
  have hz : ∀ i e, i < 6 → m ≤ e → e < 6 → ga_sw A r k i e = 0 := fun i e hi h1 h2 => by
    unfold ga_sw
    split
    · exact hu.2 k e (by omega) h1 h2
    · split
      · exact hu.2 r e hr6 h1 h2
      · exact hu.2 i e hi h1 h2
  refine ⟨fun j i hj hi => ?_, fun j i hj h1 h2 => ?_⟩
  · by_cases ejk : j = k
    · subst ejk
      rw [(es_row 6 j i (by omega)).2 (fun q => q.2 rfl), hsk]
      by_cases e1 : i = j
      · subst e1
        rw [ht, if_pos rfl]
      · rw [hu.1 r i hr6 (by omega), if_neg (by omega), gf_m_zero_left, if_neg (fun q => e1 q.symm)]
    · rw [(es_row 6 j i (by omega)).1 ⟨by omega, ejk⟩, hsk, hs j i ejk, hs j k ejk]
      by_cases e1 : i = k
      · subst e1
        rw [ht, gf_m_one (ga_sw_lt hA r i j i), Nat.xor_self, if_neg ejk]
      · rw [hu.1 r i hr6 (by omega), if_neg (by omega), gf_m_zero_left, gf_m_zero_right, Nat.xor_zero, hw j i hj (by omega)]
  · by_cases ejk : j = k
    · subst ejk
      rw [(es_row 6 j i (by omega)).2 (fun q => q.2 rfl), hsk, hu.2 r i hr6 h1 h2, gf_m_zero_left]
    · rw [(es_row 6 j i (by omega)).1 ⟨by omega, ejk⟩, hsk, hs j i ejk, hu.2 r i hr6 h1 h2, gf_m_zero_left, gf_m_zero_right, Nat.xor_zero, hz j i hj h1 h2]
/-- the elimination, column by column -/
def so_inv (S p : Nat → Nat) (n k : Nat) (A : Nat → Nat → Nat) : Prop := ga_lt A ∧ ga_un A k n ∧ ∀ u, (∀ c, u c < 256) → (ga_sat A u ↔ ga_sat (ga_0 S p n) u)
set_option maxRecDepth 30000 in
theorem so_cols {h0 : ma_H} (hp : pt_ok h0) (hm : mt_ok h0) (hn : n ≤ 6) (hpl : ∀ k, k < n → p k < 16) (hi : ∀ a b, a < n → b < n → p a = p b → a = b) {S : Nat → Nat} (hK : ∀ h A, on h0 h [197] → gv h A → so_inv S p n n A → sJ l g x Q 232 [some (.ref 184), some (.int (nI n)), none, none, none, none, none, none] [] 0 0 GS h) : ∀ m k h A, k + m = n → on h0 h [197] → gv h A → so_inv S p n k A → sJ l g x Q 81 [some (.ref 184), some (.int (nI n)), some (.int (nI k)), none, none, none, none, none] [] 0 0 GS h := by
  intro m
  induction m with
  | zero =>
    intro k h A hk ho hh hv
    have e : k = n := by omega
    subst e
    refine ma_run0 po_Mod_solved rfl rfl [81, 232] 60 ?_
    simp only [pc_Mod_solved_0, pc_Mod_solved_1, pc_Mod_solved_2, pc_Mod_solved_3, pc_Mod_solved_4, pc_Mod_solved_5, pc_Mod_solved_6, ma_go, ev_A, ev_B, ev_C, ev_D, Nat.reduceAdd, List.mem_cons, List.not_mem_nil, or_false, or_true, true_or, false_or, or_self, Nat.reduceEqDiff, reduceCtorEq, ↓reduceIte, List.length_cons, List.length_nil, Nat.reduceLT, Nat.reduceLeDiff, Nat.le_refl, implies_true, true_and, and_true, Option.toList, List.cons_append, List.nil_append]
    exact ⟨fun _ => ma_J.less (hK h A ho hh hv) ⟨rfl, rfl, trivial⟩, fun q => absurd (nI_le (Nat.le_refl _) (by omega)) q⟩
  | succ m ih =>
    intro k h A hk ho hh hv
    obtain ⟨hA, hu, hs⟩ := hv
    have hp' := on_pt ho hp
    have hm' := mt_on ho (by decide) (by decide) hm
    have found : ∀ r, k ≤ r → r < 6 → A r k ≠ 0 → sJ l g x Q 105 [some (.ref 184), some (.int (nI n)), some (.int (nI k)), some (.int (nI r)), none, none, none, none] [] 0 0 GS h := by
      intro r hr hr6 hne
      refine ma_run0 po_Mod_solved rfl rfl [107] 60 ?_
      simp only [pc_Mod_solved_0, pc_Mod_solved_1, pc_Mod_solved_2, pc_Mod_solved_3, pc_Mod_solved_4, pc_Mod_solved_5, pc_Mod_solved_6, ma_go, ev_A, ev_B, ev_C, ev_D, Nat.reduceAdd, List.mem_cons, List.not_mem_nil, or_false, or_true, true_or, false_or, or_self, Nat.reduceEqDiff, reduceCtorEq, ↓reduceIte, List.length_cons, List.length_nil, Nat.reduceLT, Nat.reduceLeDiff, Nat.le_refl, implies_true, true_and, and_true, Option.toList, List.cons_append, List.nil_append]
      refine so_swap hp (by omega) hr6 (fun h2 ho2 hh2 => ?_) 7 0 h (by omega) ho (fun i e hi he => by rw [hh i e hi he, pp_n (by omega)])
      have e0 : ga_sw A r k k k = A r k := by
        unfold ga_sw
        by_cases e1 : k = r
        · rw [if_pos e1, ← e1]
        · rw [if_neg e1, if_pos rfl]
      have hm2 := mt_on ho2 (by decide) (by decide) hm
      have hrl := hA r k
      refine ma_run0 po_Mod_solved rfl rfl [160] 60 ?_
      simp only [pc_Mod_solved_0, pc_Mod_solved_1, pc_Mod_solved_2, pc_Mod_solved_3, pc_Mod_solved_4, pc_Mod_solved_5, pc_Mod_solved_6, ma_go, ev_A, ev_B, ev_C, ev_D, Nat.reduceAdd, List.mem_cons, List.not_mem_nil, or_false, or_true, true_or, false_or, or_self, Nat.reduceEqDiff, reduceCtorEq, ↓reduceIte, List.length_cons, List.length_nil, Nat.reduceLT, Nat.reduceLeDiff, Nat.le_refl, implies_true, true_and, and_true, Option.toList, List.cons_append, List.nil_append, pt_Mod (on_pt ho2 hp), gs_184]
      rw [so_mul, nI_clamp (n := 7 * k + k) (by omega), hh2 k k (by omega) (by omega), e0, nI_clamp (n := A r k) (by omega), hm2.2 _ (by omega) hrl]
      refine ⟨ma_in_of gs_197 (by omega) (by decide), ma_in_of gs_200 (by omega) (by decide), ?_⟩
      refine so_scale hp (ga_sw_lt hA r k) (by omega) (gf_inv_lt _) (fun h3 ho3 hh3 => ?_) 7 0 h2 (by omega) ho2 (fun i e hi he => by rw [hh2 i e hi he, pp_n (by omega)])
      refine ma_run0 po_Mod_solved rfl rfl [185] 60 ?_
      simp only [pc_Mod_solved_0, pc_Mod_solved_1, pc_Mod_solved_2, pc_Mod_solved_3, pc_Mod_solved_4, pc_Mod_solved_5, pc_Mod_solved_6, ma_go, ev_A, ev_B, ev_C, ev_D, Nat.reduceAdd, List.mem_cons, List.not_mem_nil, or_false, or_true, true_or, false_or, or_self, Nat.reduceEqDiff, reduceCtorEq, ↓reduceIte, List.length_cons, List.length_nil, Nat.reduceLT, Nat.reduceLeDiff, Nat.le_refl, implies_true, true_and, and_true, Option.toList, List.cons_append, List.nil_append]
      refine so_elims hp (ga_sc_lt (ga_sw_lt hA r k) k _) (by omega) (fun h4 ho4 hh4 => ?_) 6 0 h3 (by omega) ho3 hh3
      refine ma_run0 po_Mod_solved rfl rfl [81] 60 ?_
      simp only [pc_Mod_solved_0, pc_Mod_solved_1, pc_Mod_solved_2, pc_Mod_solved_3, pc_Mod_solved_4, pc_Mod_solved_5, pc_Mod_solved_6, ma_go, ev_A, ev_B, ev_C, ev_D, Nat.reduceAdd, List.mem_cons, List.not_mem_nil, or_false, or_true, true_or, false_or, or_self, Nat.reduceEqDiff, reduceCtorEq, ↓reduceIte, List.length_cons, List.length_nil, Nat.reduceLT, Nat.reduceLeDiff, Nat.le_refl, implies_true, true_and, and_true, Option.toList, List.cons_append, List.nil_append]
      rw [nx_1]
      have ht := gf_m_inv hrl hne
      have ht0 : gf_inv (A r k) ≠ 0 := fun e => by
        rw [e, gf_m_zero_right] at ht
        cases ht
      refine ih (k + 1) h4 _ (by omega) ho4 hh4 ⟨ga_es_lt (ga_sc_lt (ga_sw_lt hA r k) k _) k 6, ga_step hA hu (by omega) hn hr hr6 ht, fun u hul => ?_⟩
      rw [ga_es_sat (ga_sc_lt (ga_sw_lt hA r k) k _) (by omega) hul, ga_sc_sat (ga_sw_lt hA r k) (gf_inv_lt _) ht0 (by omega) hul, ga_sw_sat hr6 (by omega), hs u hul]
    have search : ∀ q r, r + q = 6 → k ≤ r → (∀ i, k ≤ i → i < r → A i k = 0) → sJ l g x Q 86 [some (.ref 184), some (.int (nI n)), some (.int (nI k)), some (.int (nI r)), none, none, none, none] [] 0 0 GS h := by
      intro q
      induction q with
      | zero =>
        intro r hr hkr hz
        exact (ga_pivot hA hn hpl hi (fun u hul hsat => (hs u hul).mp hsat) hu (by omega) (fun i h1 h2 => hz i h1 (by omega))).elim
      | succ q ihq =>
        intro r hr hkr hz
        have hrl := hA r k
        refine ma_run0 po_Mod_solved rfl rfl [86, 105] 60 ?_
        simp only [pc_Mod_solved_0, pc_Mod_solved_1, pc_Mod_solved_2, pc_Mod_solved_3, pc_Mod_solved_4, pc_Mod_solved_5, pc_Mod_solved_6, ma_go, ev_A, ev_B, ev_C, ev_D, Nat.reduceAdd, List.mem_cons, List.not_mem_nil, or_false, or_true, true_or, false_or, or_self, Nat.reduceEqDiff, reduceCtorEq, ↓reduceIte, List.length_cons, List.length_nil, Nat.reduceLT, Nat.reduceLeDiff, Nat.le_refl, implies_true, true_and, and_true, Option.toList, List.cons_append, List.nil_append, pt_Mod hp', gs_184]
        rw [so_mul, nI_clamp (n := 7 * r + k) (by omega), hh r k (by omega) (by omega), nx_1]
        refine ⟨fun q => absurd q (nI_ge (by omega) (by omega)), fun _ => ⟨ma_in_of gs_197 (by omega) (by decide), fun q2 => ⟨fun _ => ?_, fun q3 => ?_⟩, fun q2 => ?_⟩⟩
        · exact found r hkr (by omega) (fun e => q2 (by rw [e]))
        · exact absurd ((nI_eq (by omega) (by omega)).mp q3) (by omega)
        · refine ihq (r + 1) (by omega) (by omega) (fun i h1 h2 => ?_)
          by_cases e : i = r
          · rw [e]; exact (nI_eq (by omega) (by omega)).mp q2
          · exact hz i h1 (by omega)
    refine ma_run0 po_Mod_solved rfl rfl [81, 86, 232] 60 ?_
    simp only [pc_Mod_solved_0, pc_Mod_solved_1, pc_Mod_solved_2, pc_Mod_solved_3, pc_Mod_solved_4, pc_Mod_solved_5, pc_Mod_solved_6, ma_go, ev_A, ev_B, ev_C, ev_D, Nat.reduceAdd, List.mem_cons, List.not_mem_nil, or_false, or_true, true_or, false_or, or_self, Nat.reduceEqDiff, reduceCtorEq, ↓reduceIte, List.length_cons, List.length_nil, Nat.reduceLT, Nat.reduceLeDiff, Nat.le_refl, implies_true, true_and, and_true, Option.toList, List.cons_append, List.nil_append]
    exact ⟨fun q => absurd q (nI_ge (by omega) (by omega)), fun _ => search (6 - k) k (by omega) (Nat.le_refl _) (fun i h1 h2 => by omega)⟩
end
