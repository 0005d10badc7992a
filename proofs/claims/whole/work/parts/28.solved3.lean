/-! the reference's solved: its contract -/
section
variable {l : Launch} {g : ma_G} {x : Bool} {Q : ma_P} {n : Nat} {c p : Nat → Nat}
set_option maxRecDepth 30000 in
theorem so_apply {h0 : ma_H} (hp : pt_ok h0) (hn : n ≤ 6) (hpl : ∀ k, k < n → p k < 16) (h1 : ar h0 198 n p) {A : Nat → Nat → Nat} (hh : gv h0 A) (hK : ∀ h, on h0 h [196] → ar h 196 16 (fun s => c s ^^^ ga_w p (fun k => A k 6) n s) → Q (some (.int (nI 1))) GS h) : ∀ m k h, k + m = n → on h0 h [196] → ar h 196 16 (fun s => c s ^^^ ga_w p (fun k => A k 6) k s) → sJ l g x Q 252 [some (.ref 184), some (.int (nI n)), some (.int (nI k)), none, none, none, none, none] [] 0 0 GS h := by
  intro m
  induction m with
  | zero =>
    intro k h hk ho ha
    have e : k = n := by omega
    subst e
    refine ma_run0 po_Mod_solved rfl rfl [252] 60 ?_
    simp only [pc_Mod_solved_0, pc_Mod_solved_1, pc_Mod_solved_2, pc_Mod_solved_3, pc_Mod_solved_4, pc_Mod_solved_5, pc_Mod_solved_6, ma_go, ev_A, ev_B, ev_C, ev_D, Nat.reduceAdd, List.mem_cons, List.not_mem_nil, or_false, or_true, true_or, false_or, or_self, Nat.reduceEqDiff, reduceCtorEq, ↓reduceIte, List.length_cons, List.length_nil, Nat.reduceLT, Nat.reduceLeDiff, Nat.le_refl, implies_true, true_and, and_true, Option.toList, List.cons_append, List.nil_append]
    exact ⟨fun _ => hK h ho ha, fun q => absurd (nI_le (Nat.le_refl _) (by omega)) q⟩
  | succ m ih =>
    intro k h hk ho ha
    have hpk := hpl k (by omega)
    have h2 := ar_on ho (by decide) h1
    refine ma_run0 po_Mod_solved rfl rfl [252] 60 ?_
    simp only [pc_Mod_solved_0, pc_Mod_solved_1, pc_Mod_solved_2, pc_Mod_solved_3, pc_Mod_solved_4, pc_Mod_solved_5, pc_Mod_solved_6, ma_go, ev_A, ev_B, ev_C, ev_D, Nat.reduceAdd, List.mem_cons, List.not_mem_nil, or_false, or_true, true_or, false_or, or_self, Nat.reduceEqDiff, reduceCtorEq, ↓reduceIte, List.length_cons, List.length_nil, Nat.reduceLT, Nat.reduceLeDiff, Nat.le_refl, implies_true, true_and, and_true, Option.toList, List.cons_append, List.nil_append, pt_Mod (on_pt ho hp), gs_184]
    rw [so_mul, nI_clamp (n := k) (by omega), h2 k (by omega), nI_clamp (n := p k) (by omega), nI_clamp (n := 7 * k + 6) (by omega), ha (p k) hpk, ho.2 197 (by decide), hh k 6 (by omega) (by omega), nx_xor, nx_1]
    refine ⟨fun q => absurd q (nI_ge (by omega) (by omega)), fun _ => ⟨ma_in_of gs_198 (by omega) (by decide), ma_in_of gs_196 (by omega) (by decide), ma_in_of gs_197 (by omega) (by decide), ma_in_of gs_196 (by omega) (by decide), ih (k + 1) _ (by omega) (on_uI ho _ _ (by simp)) (fun s hs => ?_)⟩⟩
    have ew : ga_w p (fun k => A k 6) (k + 1) s = ga_w p (fun k => A k 6) k s ^^^ (if p k = s then A k 6 else 0) := rfl
    dsimp only
    rw [ew]
    by_cases e : s = p k
    · subst e
      rw [uI_same, if_pos rfl, Nat.xor_assoc]
    · rw [uI_ne (fun q => e q.2), ha s hs, if_neg (fun q => e q.symm), Nat.xor_zero]
set_option maxRecDepth 30000 in
theorem so_check {h0 : ma_H} (hp : pt_ok h0) (hn : n ≤ 6) {A : Nat → Nat → Nat} (hA : ga_lt A) (hh : gv h0 A) (hF : (∃ j, n ≤ j ∧ j < 6 ∧ A j 6 ≠ 0) → Q (some (.int (nI 0))) GS h0) (hK : (∀ j, n ≤ j → j < 6 → A j 6 = 0) → sJ l g x Q 250 [some (.ref 184), some (.int (nI n)), none, none, none, none, none, none] [] 0 0 GS h0) : ∀ m j, j + m = 6 → n ≤ j → (∀ i, n ≤ i → i < j → A i 6 = 0) → sJ l g x Q 234 [some (.ref 184), some (.int (nI n)), some (.int (nI j)), none, none, none, none, none] [] 0 0 GS h0 := by
  intro m
  induction m with
  | zero =>
    intro j hj hnj hz
    refine ma_run0 po_Mod_solved rfl rfl [234, 250] 60 ?_
    simp only [pc_Mod_solved_0, pc_Mod_solved_1, pc_Mod_solved_2, pc_Mod_solved_3, pc_Mod_solved_4, pc_Mod_solved_5, pc_Mod_solved_6, ma_go, ev_A, ev_B, ev_C, ev_D, Nat.reduceAdd, List.mem_cons, List.not_mem_nil, or_false, or_true, true_or, false_or, or_self, Nat.reduceEqDiff, reduceCtorEq, ↓reduceIte, List.length_cons, List.length_nil, Nat.reduceLT, Nat.reduceLeDiff, Nat.le_refl, implies_true, true_and, and_true, Option.toList, List.cons_append, List.nil_append]
    have e : j = 6 := by omega
    subst e
    exact ⟨fun _ => ma_J.less (hK hz) ⟨rfl, rfl, trivial⟩, fun q => absurd (nI_le (Nat.le_refl _) (by omega)) q⟩
  | succ m ih =>
    intro j hj hnj hz
    have hal := hA j 6
    refine ma_run0 po_Mod_solved rfl rfl [234, 250] 60 ?_
    simp only [pc_Mod_solved_0, pc_Mod_solved_1, pc_Mod_solved_2, pc_Mod_solved_3, pc_Mod_solved_4, pc_Mod_solved_5, pc_Mod_solved_6, ma_go, ev_A, ev_B, ev_C, ev_D, Nat.reduceAdd, List.mem_cons, List.not_mem_nil, or_false, or_true, true_or, false_or, or_self, Nat.reduceEqDiff, reduceCtorEq, ↓reduceIte, List.length_cons, List.length_nil, Nat.reduceLT, Nat.reduceLeDiff, Nat.le_refl, implies_true, true_and, and_true, Option.toList, List.cons_append, List.nil_append, pt_Mod hp, gs_184]
    rw [so_mul, nI_clamp (n := 7 * j + 6) (by omega), hh j 6 (by omega) (by omega), nx_1]
    refine ⟨fun q => absurd q (nI_ge (by omega) (by omega)), fun _ => ⟨ma_in_of gs_197 (by omega) (by decide), fun q => ?_, fun q => ?_⟩⟩
    · refine ih (j + 1) (by omega) (by omega) (fun i h1 h2 => ?_)
      by_cases e : i = j
      · rw [e]; exact (nI_eq (by omega) (by omega)).mp q
      · exact hz i h1 (by omega)
    · exact hF ⟨j, hnj, by omega, fun e => q (by rw [e])⟩
end
/-- solved: is there a word at the places that has the column's sums? then it is added -/
def so_post (h : ma_H) (c p : Nat → Nat) (n : Nat) : ma_P := fun v S' h' => S' = GS ∧ on h h' [196, 197] ∧
  ((v = some (.int (nI 1)) ∧ ∃ e, (∀ s, s < 16 → e s < 256) ∧ (∀ s, s < 16 → ga_in p n s = false → e s = 0) ∧ (∀ j, j < 6 → gf_sy e j = gf_sy c j) ∧ ar h' 196 16 (fun s => c s ^^^ e s)) ∨
   (v = some (.int (nI 0)) ∧ ar h' 196 16 c ∧ ∀ e, (∀ s, s < 16 → e s < 256) → (∀ s, s < 16 → ga_in p n s = false → e s = 0) → ¬ ∀ j, j < 6 → gf_sy e j = gf_sy c j))
set_option maxRecDepth 30000 in
theorem m_solved (l : Launch) (g : ma_G) (x : Bool) {h : ma_H} (hp : pt_ok h) (hm : mt_ok h) {c p : Nat → Nat} {n : Nat} (hc : ∀ s, s < 16 → c s < 256) (h1 : ar h 196 16 c) (hn : n ≤ 6) (hpl : ∀ k, k < n → p k < 16) (hi : ∀ a b, a < n → b < n → p a = p b → a = b) (h2 : ar h 198 n p) : ma_PM l g x me_Mod_solved [.ref 184, .int (nI n)] GS h (so_post h c p n) := by
  refine ma_PM_of (P := pr_Mod_solved) (by decide) rfl (Nat.le_of_ble_eq_true rfl) ?_
  show ma_J l g x none me_Mod_solved pr_Mod_solved _ 0 [some (.ref 184), some (.int (nI n)), none, none, none, none, none, none] [] 0 0 GS h
  refine ma_run0 po_Mod_solved rfl rfl [2] 60 ?_
  simp only [pc_Mod_solved_0, pc_Mod_solved_1, pc_Mod_solved_2, pc_Mod_solved_3, pc_Mod_solved_4, pc_Mod_solved_5, pc_Mod_solved_6, ma_go, ev_A, ev_B, ev_C, ev_D, Nat.reduceAdd, List.mem_cons, List.not_mem_nil, or_false, or_true, true_or, false_or, or_self, Nat.reduceEqDiff, reduceCtorEq, ↓reduceIte, List.length_cons, List.length_nil, Nat.reduceLT, Nat.reduceLeDiff, Nat.le_refl, implies_true, true_and, and_true, Option.toList, List.cons_append, List.nil_append]
  refine so_rows hp hm hc h1 hn hpl h2 (fun h3 ho3 hv3 => ?_) 6 0 h rfl (on_rf h _) (fun i d hd hi => by omega)
  refine ma_run0 po_Mod_solved rfl rfl [81] 60 ?_
  simp only [pc_Mod_solved_0, pc_Mod_solved_1, pc_Mod_solved_2, pc_Mod_solved_3, pc_Mod_solved_4, pc_Mod_solved_5, pc_Mod_solved_6, ma_go, ev_A, ev_B, ev_C, ev_D, Nat.reduceAdd, List.mem_cons, List.not_mem_nil, or_false, or_true, true_or, false_or, or_self, Nat.reduceEqDiff, reduceCtorEq, ↓reduceIte, List.length_cons, List.length_nil, Nat.reduceLT, Nat.reduceLeDiff, Nat.le_refl, implies_true, true_and, and_true, Option.toList, List.cons_append, List.nil_append]
  have hS := gf_sy_lt c
  refine so_cols hp hm hn hpl hi (fun h4 A ho4 hv4 hinv => ?_) n 0 h3 _ (by omega) ho3 hv3 ⟨ga_0_lt hS, ⟨fun j i _ hi => by omega, fun j i _ h1 h2 => (if_neg (by omega)).trans (if_pos h2)⟩, fun u _ => Iff.rfl⟩
  obtain ⟨hA, hu, hs⟩ := hinv
  have hend := ga_end hA hn hs hu
  have o4 := on_mo (L' := [196, 197]) ho4 (by simp)
  refine ma_run0 po_Mod_solved rfl rfl [234] 60 ?_
  simp only [pc_Mod_solved_0, pc_Mod_solved_1, pc_Mod_solved_2, pc_Mod_solved_3, pc_Mod_solved_4, pc_Mod_solved_5, pc_Mod_solved_6, ma_go, ev_A, ev_B, ev_C, ev_D, Nat.reduceAdd, List.mem_cons, List.not_mem_nil, or_false, or_true, true_or, false_or, or_self, Nat.reduceEqDiff, reduceCtorEq, ↓reduceIte, List.length_cons, List.length_nil, Nat.reduceLT, Nat.reduceLeDiff, Nat.le_refl, implies_true, true_and, and_true, Option.toList, List.cons_append, List.nil_append]
  refine so_check (on_pt ho4 hp) hn hA hv4 (fun hf => ?_) (fun hz => ?_) (6 - n) n (by omega) (Nat.le_refl _) (fun i h1 h2 => by omega)
  · refine ⟨rfl, o4, Or.inr ⟨rfl, ar_on ho4 (by decide) h1, fun e hel he0 hsy => ?_⟩⟩
    obtain ⟨j, hj1, hj2, hj3⟩ := hf
    refine hj3 (((hend (fun k => e (p k)) (fun k hk => hel _ (hpl k hk))).mp (fun i hi6 => ?_)).2 j hj1 hj2)
    have e1 : gf_sy (ga_w p (fun k => e (p k)) n) i = gf_sy e i := by
      unfold gf_sy
      refine gf_s_congr (fun s hs => ?_)
      congr 1
      cases hb : ga_in p n s
      · rw [ga_w_out (ga_in_no hb), he0 s hs hb]
      · obtain ⟨k, hk, rfl⟩ := ga_in_yes hb
        exact ga_w_at hk hi
    rw [← ga_w_sy (fun k hk => hel _ (hpl k hk)) hpl, e1, hsy i hi6, gf_m_one (hS i), Nat.xor_self]
  · refine ma_run0 po_Mod_solved rfl rfl [252] 60 ?_
    simp only [pc_Mod_solved_0, pc_Mod_solved_1, pc_Mod_solved_2, pc_Mod_solved_3, pc_Mod_solved_4, pc_Mod_solved_5, pc_Mod_solved_6, ma_go, ev_A, ev_B, ev_C, ev_D, Nat.reduceAdd, List.mem_cons, List.not_mem_nil, or_false, or_true, true_or, false_or, or_self, Nat.reduceEqDiff, reduceCtorEq, ↓reduceIte, List.length_cons, List.length_nil, Nat.reduceLT, Nat.reduceLeDiff, Nat.le_refl, implies_true, true_and, and_true, Option.toList, List.cons_append, List.nil_append]
    refine so_apply (c := c) (on_pt ho4 hp) hn hpl (ar_on ho4 (by decide) h2) hv4 (fun h5 ho5 ha5 => ?_) n 0 h4 (by omega) (on_rf h4 _) (fun s hs => ?_)
    · refine ⟨rfl, on_tr o4 (on_mo ho5 (by simp)), Or.inl ⟨rfl, ga_w p (fun k => A k 6) n, fun s _ => ga_w_lt (fun k _ => hA _ _) s, fun s _ hb => ga_w_out (ga_in_no hb), fun j hj => ?_, ha5⟩⟩
      have h6 := (hend (fun k => A k 6) (fun k _ => hA _ _)).mpr ⟨fun _ _ => rfl, hz⟩ j hj
      rw [gf_m_one (hS j), ← ga_w_sy (fun k _ => hA _ _) hpl] at h6
      exact gf_xeq h6
    · dsimp only
      rw [ho4.2 196 (by decide), h1 s hs, show ga_w p (fun k => A k 6) 0 s = 0 from rfl, Nat.xor_zero]
