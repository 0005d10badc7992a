/-! the class's fillBlock and write -/
abbrev flJ (l : Launch) (g : ma_G) (x : Bool) (Q : ma_P) : ma_K := ma_J l g x none me_Arc_fillBlock pr_Arc_fillBlock Q
section
variable {l : Launch} {g : ma_G} {x : Bool} {Q : ma_P} {D : Nat → Nat} {n b c : Nat}
theorem fb_set {h0 : ma_H} (hp : pt_ok h0) (hb : b < 4) (hc : c < 4) (hn : n ≤ 160) (h3 : ar h0 3 160 D)
    (hK : ∀ h, on h0 h [164, 165] → ar h 164 16 (dcol D n b c) → az h 165 16 M10 → flJ l g x Q 45 [some (.ref 2), some (.int (nI b)), some (.int (nI n)), some (.int (nI c)), none, none, none] [] 0 0 GS h) :
    ∀ m s h, s + m = 16 → on h0 h [164, 165] → ar h 164 s (dcol D n b c) → az h 165 s M10 → flJ l g x Q 7 [some (.ref 2), some (.int (nI b)), some (.int (nI n)), some (.int (nI c)), some (.int (nI s)), none, none] [] 0 0 GS h := by
  intro m
  induction m with
  | zero =>
    intro s h hs ho ha hz
    have e : s = 16 := by omega
    subst e
    have t := ma_J.less (ls' := [some (.ref 2), some (.int (nI b)), some (.int (nI n)), some (.int (nI c)), some (.int (nI 16)), none, none]) (hK h ho ha hz) ⟨rfl, rfl, rfl, rfl, trivial⟩
    refine ma_run0 po_Arc_fillBlock rfl rfl [7, 10, 45] 80 ?_
    simp only [pa_Arc_fillBlock, ma_go, ev_A, ev_B, ev_C, ev_D, Nat.reduceAdd, List.mem_cons, List.not_mem_nil, or_false, or_true, true_or, false_or, or_self, Nat.reduceEqDiff, reduceCtorEq, ↓reduceIte, List.length_cons, List.length_nil, Nat.reduceLT, Nat.reduceLeDiff, Nat.le_refl, implies_true, true_and, and_true, Option.toList, List.cons_append, List.nil_append]
    exact ⟨fun _ => t, fun q => absurd (nI_le (Nat.le_refl _) (by omega)) q⟩
  | succ m ih =>
    intro s h hs ho ha hz
    have hp' := on_pt ho hp
    have go : ∀ (q : Bool) v h2 t u, q = M10 s → (if q = true then 0 else v) = dcol D n b c s → (on h h2 [164, 165] ∧ h2.1 164 s = nI (if q = true then 0 else v) ∧ h2.1 165 s = nI (zb q) ∧ (∀ k, k ≠ s → h2.1 164 k = h.1 164 k) ∧ ∀ k, k ≠ s → h2.1 165 k = h.1 165 k) → flJ l g x Q 7 [some (.ref 2), some (.int (nI b)), some (.int (nI n)), some (.int (nI c)), some (.int (nI (s + 1))), some (.int t), some (.int u)] [] 0 0 GS h2 := by
      intro q v h2 t u hq hv ⟨o2, a1, a2, a3, a4⟩
      refine ma_J.less (ih (s + 1) h2 (by omega) (on_tr ho o2) (fun k hk => ?_) (fun k hk => ?_)) ⟨rfl, rfl, rfl, rfl, rfl, trivial⟩
      · by_cases e : k = s
        · rw [e, a1, hv]
        · rw [a3 k e]; exact ha k (by omega)
      · by_cases e : k = s
        · rw [e, a2, hq]
        · rw [a4 k e]; exact hz k (by omega)
    refine ma_run0 po_Arc_fillBlock rfl rfl [7, 45] 80 ?_
    simp only [pa_Arc_fillBlock, ma_go, ev_A, ev_B, ev_C, ev_D, Nat.reduceAdd, List.mem_cons, List.not_mem_nil, or_false, or_true, true_or, false_or, or_self, Nat.reduceEqDiff, reduceCtorEq, ↓reduceIte, List.length_cons, List.length_nil, Nat.reduceLT, Nat.reduceLeDiff, Nat.le_refl, implies_true, true_and, and_true, Option.toList, List.cons_append, List.nil_append, gs_2, gs_163, pt_Arc hp']
    simp only [Int32.mul_comm (nI b) (nI 40), Int32.mul_comm (nI s) (nI 4), pk_mul, nI_add, not_true_eq_false, false_implies, true_implies, true_and, and_true, n10, not_false_eq_true]
    refine ⟨fun q => absurd q (nI_ge (by omega) (by omega)), fun _ => ⟨fun q => ⟨fun q2 => ?_, fun q2 => ?_⟩, fun q => ?_⟩⟩
    · have s10 := (nI_ltI (by omega) (by omega)).mp q
      have i1 := (nI_leI (by omega) (by omega)).mp q2
      refine ma_callP mt_Col_set rfl rfl (Nat.le_of_ble_eq_true rfl) (Nat.le_refl _) (Nat.le_refl _) (m_set l g x hp' (v := 0) (b := false) (by omega)) ?_
      intro v S' h2 hpost
      obtain ⟨rfl, rfl, hh⟩ := hpost
      simp only [pa_Arc_fillBlock, ma_go, ev_A, ev_B, ev_C, ev_D, Nat.reduceAdd, List.mem_cons, List.not_mem_nil, or_false, or_true, true_or, false_or, or_self, Nat.reduceEqDiff, reduceCtorEq, ↓reduceIte, List.length_cons, List.length_nil, Nat.reduceLT, Nat.reduceLeDiff, Nat.le_refl, implies_true, true_and, and_true, Option.toList, List.cons_append, List.nil_append]
      rw [nx_1]
      refine go false 0 h2 _ _ (decide_eq_false (by omega)).symm ?_ hh
      show 0 = dcol D n b c s
      unfold dcol
      rw [if_neg (by omega)]
    · have s10 := (nI_ltI (by omega) (by omega)).mp q
      have i1 : 40 * b + 4 * s + c < n := Nat.lt_of_not_le (fun z => q2 (nI_le z (by omega)))
      have v3 : h.1 3 (40 * b + 4 * s + c) = nI (D (40 * b + 4 * s + c)) := by rw [ho.2 3 (by decide)]; exact h3 _ (by omega)
      rw [nI_clamp (n := 40 * b + 4 * s + c) (by omega), v3]
      refine ⟨ma_in_of gs_3 (by omega) (by decide), ?_⟩
      refine ma_callP mt_Col_set rfl rfl (Nat.le_of_ble_eq_true rfl) (Nat.le_refl _) (Nat.le_refl _) (m_set l g x hp' (v := D (40 * b + 4 * s + c)) (b := false) (by omega)) ?_
      intro v S' h2 hpost
      obtain ⟨rfl, rfl, hh⟩ := hpost
      simp only [pa_Arc_fillBlock, ma_go, ev_A, ev_B, ev_C, ev_D, Nat.reduceAdd, List.mem_cons, List.not_mem_nil, or_false, or_true, true_or, false_or, or_self, Nat.reduceEqDiff, reduceCtorEq, ↓reduceIte, List.length_cons, List.length_nil, Nat.reduceLT, Nat.reduceLeDiff, Nat.le_refl, implies_true, true_and, and_true, Option.toList, List.cons_append, List.nil_append]
      rw [nx_1]
      refine go false _ h2 _ _ (decide_eq_false (by omega)).symm ?_ hh
      show D (40 * b + 4 * s + c) = dcol D n b c s
      unfold dcol
      rw [if_pos (by omega)]
    · have s10 : 10 ≤ s := Nat.le_of_not_lt (fun z => q (nI_lt z (by omega)))
      refine ma_callP mt_Col_set rfl rfl (Nat.le_of_ble_eq_true rfl) (Nat.le_refl _) (Nat.le_refl _) (m_set l g x hp' (v := 0) (b := true) (by omega)) ?_
      intro v S' h2 hpost
      obtain ⟨rfl, rfl, hh⟩ := hpost
      simp only [pa_Arc_fillBlock, ma_go, ev_A, ev_B, ev_C, ev_D, Nat.reduceAdd, List.mem_cons, List.not_mem_nil, or_false, or_true, true_or, false_or, or_self, Nat.reduceEqDiff, reduceCtorEq, ↓reduceIte, List.length_cons, List.length_nil, Nat.reduceLT, Nat.reduceLeDiff, Nat.le_refl, implies_true, true_and, and_true, Option.toList, List.cons_append, List.nil_append]
      rw [nx_1]
      refine go true 0 h2 _ _ (decide_eq_true s10).symm ?_ hh
      show 0 = dcol D n b c s
      unfold dcol
      rw [if_neg (by omega)]
theorem fb_put {h0 : ma_H} (hp : pt_ok h0) (hc : c < 4) {w : Nat → Nat} (h4 : ar h0 164 16 w) {B N : Int32}
    (hK : ∀ h, on h0 h [172] → (∀ k, k < 64 → h.1 172 k = if k % 4 = c then nI (w (k / 4)) else h0.1 172 k) → flJ l g x Q 69 [some (.ref 2), some (.int B), some (.int N), some (.int (nI c)), none, none, none] [] 0 0 GS h) :
    ∀ m s h, s + m = 16 → on h0 h [172] → (∀ k, h.1 172 k = if k % 4 = c ∧ k / 4 < s then nI (w (k / 4)) else h0.1 172 k) → flJ l g x Q 51 [some (.ref 2), some (.int B), some (.int N), some (.int (nI c)), some (.int (nI s)), none, none] [] 0 0 GS h := by
  intro m
  induction m with
  | zero =>
    intro s h hs ho h8
    have e : s = 16 := by omega
    subst e
    have t := ma_J.less (ls' := [some (.ref 2), some (.int B), some (.int N), some (.int (nI c)), some (.int (nI 16)), none, none]) (hK h ho (fun k hk => by
      rw [h8 k]
      by_cases e : k % 4 = c
      · rw [if_pos ⟨e, by omega⟩, if_pos e]
      · rw [if_neg (fun z => e z.1), if_neg e])) ⟨rfl, rfl, rfl, rfl, trivial⟩
    refine ma_run0 po_Arc_fillBlock rfl rfl [51, 54, 69] 80 ?_
    simp only [pa_Arc_fillBlock, ma_go, ev_A, ev_B, ev_C, ev_D, Nat.reduceAdd, List.mem_cons, List.not_mem_nil, or_false, or_true, true_or, false_or, or_self, Nat.reduceEqDiff, reduceCtorEq, ↓reduceIte, List.length_cons, List.length_nil, Nat.reduceLT, Nat.reduceLeDiff, Nat.le_refl, implies_true, true_and, and_true, Option.toList, List.cons_append, List.nil_append]
    exact ⟨fun _ => t, fun q => absurd (nI_le (Nat.le_refl _) (by omega)) q⟩
  | succ m ih =>
    intro s h hs ho h8
    have hp' := on_pt ho hp
    have v4 : h.1 164 s = nI (w s) := by rw [ho.2 164 (by decide)]; exact h4 s (by omega)
    have i2 := ih (s + 1) (ma_uI h 172 (4 * s + c) (nI (w s))) (by omega) (on_uI ho _ _ (by simp)) (fun k => by
      by_cases e : k = 4 * s + c
      · rw [e, uI_same, if_pos (by omega), show (4 * s + c) / 4 = s by omega]
      · rw [uI_ne (fun z => e z.2), h8 k]
        by_cases q : k % 4 = c ∧ k / 4 < s
        · rw [if_pos q, if_pos (by omega)]
        · rw [if_neg q, if_neg (by omega)])
    refine ma_run0 po_Arc_fillBlock rfl rfl [51, 69] 80 ?_
    simp only [pa_Arc_fillBlock, ma_go, ev_A, ev_B, ev_C, ev_D, Nat.reduceAdd, List.mem_cons, List.not_mem_nil, or_false, or_true, true_or, false_or, or_self, Nat.reduceEqDiff, reduceCtorEq, ↓reduceIte, List.length_cons, List.length_nil, Nat.reduceLT, Nat.reduceLeDiff, Nat.le_refl, implies_true, true_and, and_true, Option.toList, List.cons_append, List.nil_append, gs_2, gs_163, pt_Arc hp', pt_Col hp']
    simp only [Int32.mul_comm (nI s) (nI 4), pk_mul, nI_add]
    rw [nI_clamp (n := s) (by omega), v4, nI_clamp (n := 4 * s + c) (by omega)]
    exact ⟨fun q => absurd q (nI_ge (by omega) (by omega)), fun _ => ⟨ma_in_of gs_164 (by omega) (by decide), ma_in_of gs_172 (by omega) (by decide), i2⟩⟩
end
theorem m_fillBlock (l : Launch) (g : ma_G) (x : Bool) {h : ma_H} (hp : pt_ok h) (hf : fd_ok h) {b n : Nat} (hb : b < 4) (hn : n ≤ 160) {D : Nat → Nat} (hD : ∀ i, i < 160 → D i < 256) (h3 : ar h 3 160 D) : ma_PM l g x me_Arc_fillBlock [.ref 2, .int (nI b), .int (nI n)] GS h (fun v S' h' => v = none ∧ S' = GS ∧ on h h' [164, 165, 166, 167, 168, 169, 170, 171, 172] ∧ ar h' 172 64 (cb D n b)) := by
  refine ma_PM_of (P := pr_Arc_fillBlock) (by decide) rfl (Nat.le_of_ble_eq_true rfl) ?_
  show ma_J l g x none me_Arc_fillBlock pr_Arc_fillBlock _ 0 [some (.ref 2), some (.int (nI b)), some (.int (nI n)), none, none, none, none] [] 0 0 GS h
  generalize hQ : (fun (v : Option Value) (S' : ma_S) (h' : ma_H) => v = none ∧ S' = GS ∧ on h h' [164, 165, 166, 167, 168, 169, 170, 171, 172] ∧ ar h' 172 64 (cb D n b)) = Q
  have loop : ∀ m c H, c + m = 4 → on h H [164, 165, 166, 167, 168, 169, 170, 171, 172] → (∀ k, k < 64 → k % 4 < c → H.1 172 k = nI (cb D n b k)) → flJ l g x Q 2 [some (.ref 2), some (.int (nI b)), some (.int (nI n)), some (.int (nI c)), none, none, none] [] 0 0 GS H := by
    intro m
    induction m with
    | zero =>
      intro c H hc oH hv
      have e : c = 4 := by omega
      subst e
      refine ma_run0 po_Arc_fillBlock rfl rfl [2, 5] 80 ?_
      simp only [pa_Arc_fillBlock, ma_go, ev_A, ev_B, ev_C, ev_D, Nat.reduceAdd, List.mem_cons, List.not_mem_nil, or_false, or_true, true_or, false_or, or_self, Nat.reduceEqDiff, reduceCtorEq, ↓reduceIte, List.length_cons, List.length_nil, Nat.reduceLT, Nat.reduceLeDiff, Nat.le_refl, implies_true, true_and, and_true, Option.toList, List.cons_append, List.nil_append]
      refine ⟨fun _ => ?_, fun q => absurd (nI_le (Nat.le_refl _) (by omega)) q⟩
      rw [← hQ]
      exact ⟨rfl, rfl, oH, fun k hk => hv k hk (by omega)⟩
    | succ m ih =>
      intro c H hc oH hv
      have hpH := on_pt oH hp
      refine ma_run0 po_Arc_fillBlock rfl rfl [2, 7, 71] 80 ?_
      simp only [pa_Arc_fillBlock, ma_go, ev_A, ev_B, ev_C, ev_D, Nat.reduceAdd, List.mem_cons, List.not_mem_nil, or_false, or_true, true_or, false_or, or_self, Nat.reduceEqDiff, reduceCtorEq, ↓reduceIte, List.length_cons, List.length_nil, Nat.reduceLT, Nat.reduceLeDiff, Nat.le_refl, implies_true, true_and, and_true, Option.toList, List.cons_append, List.nil_append]
      refine ⟨fun q => absurd q (nI_ge (by omega) (by omega)), fun _ => ?_⟩
      refine fb_set hpH hb (show c < 4 by omega) hn (ar_on oH (by decide) h3) (fun H1 o1 a1 z1 => ?_) 16 0 H (by omega) (on_rf _ _) (fun k hk => by omega) (fun k hk => by omega)
      have o2 := on_tr oH (on_mo (L' := [164, 165, 166, 167, 168, 169, 170, 171, 172]) o1 (by simp))
      have hp1 := on_pt o2 hp
      refine ma_run0 po_Arc_fillBlock rfl rfl [51] 80 ?_
      simp only [pa_Arc_fillBlock, ma_go, ev_A, ev_B, ev_C, ev_D, Nat.reduceAdd, List.mem_cons, List.not_mem_nil, or_false, or_true, true_or, false_or, or_self, Nat.reduceEqDiff, reduceCtorEq, ↓reduceIte, List.length_cons, List.length_nil, Nat.reduceLT, Nat.reduceLeDiff, Nat.le_refl, implies_true, true_and, and_true, Option.toList, List.cons_append, List.nil_append, gs_2, gs_163, pt_Arc hp1]
      refine ma_callP mt_Col_mend rfl rfl (Nat.le_of_ble_eq_true rfl) (Nat.le_refl _) (Nat.le_refl _) (m_mend l g x hp1 (fd_on o2 (by decide) (by decide) hf) z1 (fun s _ => dcol_lt hD hn s) a1) ?_
      intro v S' H2 hpost
      obtain ⟨rfl, o3, hh⟩ := hpost
      have o4 := on_tr o2 (on_mo (L' := [164, 165, 166, 167, 168, 169, 170, 171, 172]) o3 (by simp))
      have md := m10_md (c := dcol D n b c) (fun s _ => dcol_lt hD hn s)
      rcases hh with ⟨rfl, w, w1, w2⟩ | ⟨rfl, w1⟩
      · simp only [pa_Arc_fillBlock, ma_go, ev_A, ev_B, ev_C, ev_D, Nat.reduceAdd, List.mem_cons, List.not_mem_nil, or_false, or_true, true_or, false_or, or_self, Nat.reduceEqDiff, reduceCtorEq, ↓reduceIte, List.length_cons, List.length_nil, Nat.reduceLT, Nat.reduceLeDiff, Nat.le_refl, implies_true, true_and, and_true, Option.toList, List.cons_append, List.nil_append]
        refine fb_put (on_pt o4 hp) (show c < 4 by omega) w2 (fun H3 o5 e5 => ?_) 16 0 H2 (by omega) (on_rf _ _) (fun k => by rw [if_neg (by omega)])
        refine ma_run0 po_Arc_fillBlock rfl rfl [2] 80 ?_
        simp only [pa_Arc_fillBlock, ma_go, ev_A, ev_B, ev_C, ev_D, Nat.reduceAdd, List.mem_cons, List.not_mem_nil, or_false, or_true, true_or, false_or, or_self, Nat.reduceEqDiff, reduceCtorEq, ↓reduceIte, List.length_cons, List.length_nil, Nat.reduceLT, Nat.reduceLeDiff, Nat.le_refl, implies_true, true_and, and_true, Option.toList, List.cons_append, List.nil_append]
        rw [nx_1]
        refine ih (c + 1) H3 (by omega) (on_tr o4 (on_mo o5 (by simp))) (fun k hk hk4 => ?_)
        rw [e5 k hk]
        by_cases e : k % 4 = c
        · rw [if_pos e, gf_md_one w1 md _ (by omega)]
          unfold cb
          rw [e]
        · rw [if_neg e, o3.2 172 (by decide), o1.2 172 (by decide)]
          exact hv k hk (by omega)
      · exact absurd md (w1 _)
  refine ma_run0 po_Arc_fillBlock rfl rfl [2] 80 ?_
  simp only [pa_Arc_fillBlock, ma_go, ev_A, ev_B, ev_C, ev_D, Nat.reduceAdd, List.mem_cons, List.not_mem_nil, or_false, or_true, true_or, false_or, or_self, Nat.reduceEqDiff, reduceCtorEq, ↓reduceIte, List.length_cons, List.length_nil, Nat.reduceLT, Nat.reduceLeDiff, Nat.le_refl, implies_true, true_and, and_true, Option.toList, List.cons_append, List.nil_append]
  exact loop 4 0 h (by omega) (on_rf h _) (fun k _ hk => by omega)
/-- the cells that write changes -/
def RL : List Nat := [2, 164, 165, 166, 167, 168, 169, 170, 171, 172, 173, 174] ++ List.range' 5 64
theorem RL_in {a : Nat} : a ∈ RL ↔ a = 2 ∨ (164 ≤ a ∧ a ≤ 174) ∨ (5 ≤ a ∧ a < 69) := by
  unfold RL
  rw [List.mem_append, List.mem_range'_1]
  simp only [List.mem_cons, List.not_mem_nil, or_false]
  omega
section
variable (l : Launch) (g : ma_G) (x : Bool) {h : ma_H}
theorem m_writeN {n : Int32} (hn : ¬ (nI 1 ≤ n ∧ n ≤ nI 160)) : ma_PM l g x me_Arc_write [.ref 2, .int n] GS h (fun v S' h' => v = some (.int (nI 0)) ∧ S' = GS ∧ h' = h) := by
  refine ma_PM_of (P := pr_Arc_write) (by decide) rfl (Nat.le_of_ble_eq_true rfl) ?_
  show ma_J l g x none me_Arc_write pr_Arc_write _ 0 [some (.ref 2), some (.int n), none, none, none] [] 0 0 GS h
  refine ma_run0 po_Arc_write rfl rfl [5] 60 ?_
  simp only [pa_Arc_write, ma_go, ev_A, ev_B, ev_C, ev_D, Nat.reduceAdd, List.mem_cons, List.not_mem_nil, or_false, or_true, true_or, false_or, or_self, Nat.reduceEqDiff, reduceCtorEq, ↓reduceIte, List.length_cons, List.length_nil, Nat.reduceLT, Nat.reduceLeDiff, Nat.le_refl, implies_true, true_and, and_true, Option.toList, List.cons_append, List.nil_append]
  refine ma_callD mt_Arc_isSize rfl rfl (Nat.le_of_ble_eq_true rfl) (Nat.le_refl _) (Nat.le_refl _) (m_isSize l g x GS n) ?_
  simp only [pa_Arc_write, ma_go, ev_A, ev_B, ev_C, ev_D, Nat.reduceAdd, List.mem_cons, List.not_mem_nil, or_false, or_true, true_or, false_or, or_self, Nat.reduceEqDiff, reduceCtorEq, ↓reduceIte, List.length_cons, List.length_nil, Nat.reduceLT, Nat.reduceLeDiff, Nat.le_refl, implies_true, true_and, and_true, Option.toList, List.cons_append, List.nil_append]
  rw [show decide (nI 1 ≤ n ∧ n ≤ nI 160) = false from decide_eq_false hn]
  exact fun q => absurd rfl q
theorem m_write (hp : pt_ok h) (hf : fd_ok h) {n : Nat} {D w0 : Nat → Nat} (hn : 1 ≤ n ∧ n ≤ 160) (hD : ∀ i, i < 160 → D i < 256) (h3 : ar h 3 160 D) (hw0 : wf w0) (hbd : bd h 173 w0) : ma_PM l g x me_Arc_write [.ref 2, .int (nI n)] GS h (fun v S' h' => v = some (.int (nI (16 * bl n))) ∧ S' = GS ∧ onr h h' RL ∧ h'.1 2 2 = nI (16 * bl n) ∧ h'.1 2 4 = nI 0 ∧ (∃ w', wf w' ∧ bd h' 173 w') ∧ ∀ t, t < 16 * bl n → rz h' (5 + t) 45 (TT D n t)) := by
  refine ma_PM_of (P := pr_Arc_write) (by decide) rfl (Nat.le_of_ble_eq_true rfl) ?_
  show ma_J l g x none me_Arc_write pr_Arc_write _ 0 [some (.ref 2), some (.int (nI n)), none, none, none] [] 0 0 GS h
  generalize hQ : (fun (v : Option Value) (S' : ma_S) (h' : ma_H) => v = some (.int (nI (16 * bl n))) ∧ S' = GS ∧ onr h h' RL ∧ h'.1 2 2 = nI (16 * bl n) ∧ h'.1 2 4 = nI 0 ∧ (∃ w', wf w' ∧ bd h' 173 w') ∧ ∀ t, t < 16 * bl n → rz h' (5 + t) 45 (TT D n t)) = Q
  have hB : bl n ≤ 4 := by unfold bl; omega
  have loop : ∀ m b H, b + m = bl n → onr h H RL → (∃ w', wf w' ∧ bd H 173 w') → (∀ t, t < 16 * b → rz H (5 + t) 45 (TT D n t)) → ma_J l g x none me_Arc_write pr_Arc_write Q 10 [some (.ref 2), some (.int (nI n)), some (.int (nI (bl n))), some (.int (nI b)), none] [] 0 0 GS H := by
    intro m
    induction m with
    | zero =>
      intro b H hm oH hw hz
      have e : b = bl n := by omega
      rw [e] at hz
      refine ma_run0 po_Arc_write rfl rfl [10, 13] 80 ?_
      simp only [pa_Arc_write, ma_go, ev_A, ev_B, ev_C, ev_D, Nat.reduceAdd, List.mem_cons, List.not_mem_nil, or_false, or_true, true_or, false_or, or_self, Nat.reduceEqDiff, reduceCtorEq, ↓reduceIte, List.length_cons, List.length_nil, Nat.reduceLT, Nat.reduceLeDiff, Nat.le_refl, implies_true, true_and, and_true, Option.toList, List.cons_append, List.nil_append, gs_2]
      rw [e, Int32.mul_comm (nI (bl n)), pk_mul]
      refine ⟨fun _ => ?_, fun q => absurd (nI_le (Nat.le_refl _) (by omega)) q⟩
      rw [← hQ]
      have o2 : on H (ma_uI (ma_uI H 2 2 (nI (16 * bl n))) 2 4 (nI 0)) [2] := on_uI (on_uI (on_rf H _) _ _ (by simp)) _ _ (by simp)
      have e2 : (ma_uI (ma_uI H 2 2 (nI (16 * bl n))) 2 4 (nI 0)).1 2 2 = nI (16 * bl n) := by rw [uI_ne (by omega), uI_same]
      obtain ⟨w', hw1, hw2⟩ := hw
      refine ⟨?_, rfl, onr_tr oH (onr_mo (onr_on o2) (fun q hq => RL_in.mpr (by simp at hq; omega))), e2, uI_same _ _ _ _, ⟨w', hw1, bd_on o2 (by decide) (by decide) hw2⟩, fun t ht => rz_onr (onr_on o2) (by simp; omega) (hz t ht)⟩
      first | rw [e2] | rfl | rw [uI_same]
    | succ m ih =>
      intro b H hm oH hw hz
      have hpH := onr_pt oH hp
      have hfH : fd_ok H := by
        obtain ⟨f1, f2, f3, f4⟩ := hf
        exact ⟨by rw [oH.1]; exact f1, by rw [oH.1]; exact f2, fun i hi => by rw [oH.2.1 161 (fun z => by have := RL_in.mp z; omega)]; exact f3 i hi, fun a h0 ha => by rw [oH.2.1 162 (fun z => by have := RL_in.mp z; omega)]; exact f4 a h0 ha⟩
      have a3 : ar H 3 160 D := ar_onr oH (fun z => by have := RL_in.mp z; omega) h3
      obtain ⟨w', hw1, hw2⟩ := hw
      have loop2 : ∀ m s H2, s + m = 16 → onr h H2 RL → (∃ w', wf w' ∧ bd H2 173 w') → ar H2 172 64 (cb D n b) → (∀ t, t < 16 * b + s → rz H2 (5 + t) 45 (TT D n t)) → ma_J l g x none me_Arc_write pr_Arc_write Q 19 [some (.ref 2), some (.int (nI n)), some (.int (nI (bl n))), some (.int (nI b)), some (.int (nI s))] [] 0 0 GS H2 := by
        intro m
        induction m with
        | zero =>
          intro s H2 hs o2 w2 c2 z2
          have e : s = 16 := by omega
          subst e
          refine ma_run0 po_Arc_write rfl rfl [10, 22] 80 ?_
          simp only [pa_Arc_write, ma_go, ev_A, ev_B, ev_C, ev_D, Nat.reduceAdd, List.mem_cons, List.not_mem_nil, or_false, or_true, true_or, false_or, or_self, Nat.reduceEqDiff, reduceCtorEq, ↓reduceIte, List.length_cons, List.length_nil, Nat.reduceLT, Nat.reduceLeDiff, Nat.le_refl, implies_true, true_and, and_true, Option.toList, List.cons_append, List.nil_append]
          rw [nx_1]
          exact ⟨fun _ => ma_J.less (ih (b + 1) H2 (by omega) o2 w2 (fun t ht => z2 t (by omega))) ⟨rfl, rfl, rfl, rfl, trivial⟩, fun q => absurd (nI_le (Nat.le_refl _) (by omega)) q⟩
        | succ m ih2 =>
          intro s H2 hs o2 w2 c2 z2
          obtain ⟨v2, v21, v22⟩ := w2
          refine ma_run0 po_Arc_write rfl rfl [19, 28] 80 ?_
          simp only [pa_Arc_write, ma_go, ev_A, ev_B, ev_C, ev_D, Nat.reduceAdd, List.mem_cons, List.not_mem_nil, or_false, or_true, true_or, false_or, or_self, Nat.reduceEqDiff, reduceCtorEq, ↓reduceIte, List.length_cons, List.length_nil, Nat.reduceLT, Nat.reduceLeDiff, Nat.le_refl, implies_true, true_and, and_true, Option.toList, List.cons_append, List.nil_append, gs_2]
          refine ⟨fun q => absurd q (nI_ge (by omega) (by omega)), fun _ => ?_⟩
          refine ma_callP mt_Arc_spellStrand rfl rfl (Nat.le_of_ble_eq_true rfl) (Nat.le_refl _) (Nat.le_refl _) (m_spellStrand l g x (onr_pt o2 hp) (show b < 4 by omega) (show s < 16 by omega) (fun k hk => cb_lt hD hn.2 hk) c2 v21 v22) ?_
          intro v S' H3 hpost
          obtain ⟨rfl, rfl, o3, w3, z3⟩ := hpost
          simp only [pa_Arc_write, ma_go, ev_A, ev_B, ev_C, ev_D, Nat.reduceAdd, List.mem_cons, List.not_mem_nil, or_false, or_true, true_or, false_or, or_self, Nat.reduceEqDiff, reduceCtorEq, ↓reduceIte, List.length_cons, List.length_nil, Nat.reduceLT, Nat.reduceLeDiff, Nat.le_refl, implies_true, true_and, and_true, Option.toList, List.cons_append, List.nil_append]
          rw [nx_1]
          refine ih2 (s + 1) H3 (by omega) (onr_tr o2 (onr_mo o3 (fun q hq => RL_in.mpr (by simp at hq; omega)))) w3 (ar_onr o3 (by simp; omega) c2) (fun t ht => ?_)
          by_cases e : t = 16 * b + s
          · rw [e]
            have : TT D n (16 * b + s) = stl (spw (VV b s (cb D n b))) := by
              unfold TT
              rw [show (16 * b + s) / 16 = b by omega, show (16 * b + s) % 16 = s by omega]
            rw [this]
            exact z3
          · exact rz_onr o3 (by simp; omega) (z2 t (by omega))
      refine ma_run0 po_Arc_write rfl rfl [19, 30] 80 ?_
      simp only [pa_Arc_write, ma_go, ev_A, ev_B, ev_C, ev_D, Nat.reduceAdd, List.mem_cons, List.not_mem_nil, or_false, or_true, true_or, false_or, or_self, Nat.reduceEqDiff, reduceCtorEq, ↓reduceIte, List.length_cons, List.length_nil, Nat.reduceLT, Nat.reduceLeDiff, Nat.le_refl, implies_true, true_and, and_true, Option.toList, List.cons_append, List.nil_append, gs_2]
      refine ⟨fun q => absurd q (nI_ge (by omega) (by omega)), fun _ => ?_⟩
      refine ma_callP mt_Arc_fillBlock rfl rfl (Nat.le_of_ble_eq_true rfl) (Nat.le_refl _) (Nat.le_refl _) (m_fillBlock l g x hpH hfH (show b < 4 by omega) hn.2 hD a3) ?_
      intro v S' H2 hpost
      obtain ⟨rfl, rfl, o2, c2⟩ := hpost
      simp only [pa_Arc_write, ma_go, ev_A, ev_B, ev_C, ev_D, Nat.reduceAdd, List.mem_cons, List.not_mem_nil, or_false, or_true, true_or, false_or, or_self, Nat.reduceEqDiff, reduceCtorEq, ↓reduceIte, List.length_cons, List.length_nil, Nat.reduceLT, Nat.reduceLeDiff, Nat.le_refl, implies_true, true_and, and_true, Option.toList, List.cons_append, List.nil_append]
      exact loop2 16 0 H2 (by omega) (onr_tr oH (onr_mo (onr_on o2) (fun q hq => RL_in.mpr (by simp at hq; omega)))) ⟨w', hw1, bd_on o2 (by decide) (by decide) hw2⟩ c2 (fun t ht => rz_onr (onr_on o2) (by simp; omega) (hz t (by omega)))
  refine ma_run0 po_Arc_write rfl rfl [5] 60 ?_
  simp only [pa_Arc_write, ma_go, ev_A, ev_B, ev_C, ev_D, Nat.reduceAdd, List.mem_cons, List.not_mem_nil, or_false, or_true, true_or, false_or, or_self, Nat.reduceEqDiff, reduceCtorEq, ↓reduceIte, List.length_cons, List.length_nil, Nat.reduceLT, Nat.reduceLeDiff, Nat.le_refl, implies_true, true_and, and_true, Option.toList, List.cons_append, List.nil_append]
  refine ma_callD mt_Arc_isSize rfl rfl (Nat.le_of_ble_eq_true rfl) (Nat.le_refl _) (Nat.le_refl _) (m_isSize l g x GS (nI n)) ?_
  simp only [pa_Arc_write, ma_go, ev_A, ev_B, ev_C, ev_D, Nat.reduceAdd, List.mem_cons, List.not_mem_nil, or_false, or_true, true_or, false_or, or_self, Nat.reduceEqDiff, reduceCtorEq, ↓reduceIte, List.length_cons, List.length_nil, Nat.reduceLT, Nat.reduceLeDiff, Nat.le_refl, implies_true, true_and, and_true, Option.toList, List.cons_append, List.nil_append]
  rw [show decide (nI 1 ≤ nI n ∧ nI n ≤ nI 160) = true from decide_eq_true ⟨nI_le (by omega) (by omega), nI_le (by omega) (by omega)⟩]
  refine ⟨fun _ => ?_, fun q => absurd q (by decide +kernel)⟩
  refine ma_run0 po_Arc_write rfl rfl [10] 60 ?_
  simp only [pa_Arc_write, ma_go, ev_A, ev_B, ev_C, ev_D, Nat.reduceAdd, List.mem_cons, List.not_mem_nil, or_false, or_true, true_or, false_or, or_self, Nat.reduceEqDiff, reduceCtorEq, ↓reduceIte, List.length_cons, List.length_nil, Nat.reduceLT, Nat.reduceLeDiff, Nat.le_refl, implies_true, true_and, and_true, Option.toList, List.cons_append, List.nil_append]
  refine ma_callD mt_Arc_blocksOf rfl rfl (Nat.le_of_ble_eq_true rfl) (Nat.le_refl _) (Nat.le_refl _) (m_blocksOf l g x GS hn.2) ?_
  simp only [pa_Arc_write, ma_go, ev_A, ev_B, ev_C, ev_D, Nat.reduceAdd, List.mem_cons, List.not_mem_nil, or_false, or_true, true_or, false_or, or_self, Nat.reduceEqDiff, reduceCtorEq, ↓reduceIte, List.length_cons, List.length_nil, Nat.reduceLT, Nat.reduceLeDiff, Nat.le_refl, implies_true, true_and, and_true, Option.toList, List.cons_append, List.nil_append]
  exact loop (bl n) 0 h (by omega) (onr_rf h _) ⟨w0, hw0, hbd⟩ (fun t ht => by omega)
end
